/-! METHODS AS FUNCTIONS, written by wip/gen/shallow.py -/
set_option maxHeartbeats 4000000 in
set_option maxRecDepth 100000 in
noncomputable def T_X11_begins_0.{u} {α : Sort u} (R : Unit → Mem → α) (N : α) (n : Nat) (a0 : Nat) (x1 : Int32) (M : Mem) : α := gd (fO M a0 11) N (bnd2 (cal n (fun n => f_X11_tidies n a0 M)) N (fun _ M3 => gd (fO M3 a0 11) N (R () (wI (wI (wI (wI (wI M3 a0 27 0) a0 28 x1) a0 29 0) a0 30 0) a0 31 (-1)))))
set_option maxHeartbeats 4000000 in
set_option maxRecDepth 100000 in
theorem n_X11_begins_0.{u, v} {α : Sort u} {β : Sort v} (h : α → β) (R : Unit → Mem → α) (N : α) (n : Nat) (a0 : Nat) (x1 : Int32) (M : Mem) : h (T_X11_begins_0 R N n a0 x1 M) = T_X11_begins_0 (fun v M => h (R v M)) (h N) n a0 x1 M := by
  simp only [T_X11_begins_0, nat_ite h, nat_gd h, nat_bnd h, nat_bnd2 h]
set_option maxHeartbeats 4000000 in
set_option maxRecDepth 100000 in
theorem w_X11_begins_0 {X : Nat × (Nat → Int32)} {al : Bool} {n : Nat} {Q : Option Value → Mem → Prop} {R : Unit → Mem → Prop} (hR : ∀ v M, R v M → Q none M) {a0 : Nat} {x1 : Int32} {M : Mem} (h : T_X11_begins_0 R False n a0 x1 M) : AW X (RX11, cX11_begins, 2, none, false, al, n) 0 0 0 [(0, .ref a0), (1, .int x1)] [] M Q := by
  unfold T_X11_begins_0 at h
  refine a_aload_n dX11_begins_0 rfl rfl ?_
  obtain ⟨⟨ga1, gs2⟩, h⟩ := gd_t h
  obtain ⟨_, M3, e4, h⟩ := bnd2_t h
  obtain ⟨n5, en6, e4⟩ := cal_t e4
  refine e_callV (As := []) (st := []) (a := a0) (ci := 11) false dX11_begins_1 mw_X11_tidies (Or.inl ⟨rfl, ml_X11_198⟩) im_X11_tidies se_X11_tidies (by decide) ga1 gs2 rfl (Nat.le_of_ble_eq_true rfl) en6 (s_X11_tidies e4) ?_
  refine a_aload_n dX11_begins_4 rfl rfl ?_
  refine a_iconst (v := 0) dX11_begins_5 (by decide) ?_
  obtain ⟨⟨ga7, gs8⟩, h⟩ := gd_t h
  refine a_putI dX11_begins_6 (Or.inl ⟨fl_11_154, Or.inl rfl⟩) rfl ga7 gs8 rfl rfl ?_
  refine a_aload_n dX11_begins_9 rfl rfl ?_
  refine a_iload_n dX11_begins_10 rfl rfl ?_
  refine a_putI dX11_begins_11 (Or.inl ⟨fl_11_160, Or.inl rfl⟩) rfl ga7 gs8 rfl rfl ?_
  refine a_aload_n dX11_begins_14 rfl rfl ?_
  refine a_iconst (v := 0) dX11_begins_15 (by decide) ?_
  refine a_putI dX11_begins_16 (Or.inl ⟨fl_11_157, Or.inl rfl⟩) rfl ga7 gs8 rfl rfl ?_
  refine a_aload_n dX11_begins_19 rfl rfl ?_
  refine a_iconst (v := 0) dX11_begins_20 (by decide) ?_
  refine a_putI dX11_begins_21 (Or.inl ⟨fl_11_163, Or.inl rfl⟩) rfl ga7 gs8 rfl rfl ?_
  refine a_aload_n dX11_begins_24 rfl rfl ?_
  refine a_iconst (v := -1) dX11_begins_25 (by decide) ?_
  refine a_putI dX11_begins_26 (Or.inl ⟨fl_11_166, Or.inl rfl⟩) rfl ga7 gs8 rfl rfl ?_
  exact a_vret dX11_begins_29 rfl (hR _ _ h)
noncomputable def b_X11_begins (n : Nat) (a0 : Nat) (x1 : Int32) (M : Mem) : Option (Unit × Mem) := T_X11_begins_0 (fun v M => some (v, M)) none n a0 x1 M
set_option maxHeartbeats 4000000 in
set_option maxRecDepth 100000 in
theorem sb_X11_begins {X : Nat × (Nat → Int32)} {al : Bool} {n : Nat} {a0 : Nat} {x1 : Int32} {M : Mem} {v : Unit} {M1 : Mem} (h : b_X11_begins n a0 x1 M = some (v, M1)) : AE yX11_begins cX11_begins 2 none al n X [.ref a0, .int x1] M none M1 := by
  refine AM.of false (by decide +kernel) (by intro h; cases h) (Nat.le_of_ble_eq_true rfl) ?_
  have h2 : T_X11_begins_0 (fun v2 M2 => some (v2, M2) = some (v, M1)) (none = some (v, M1)) n a0 x1 M := (n_X11_begins_0 (fun o => o = some (v, M1)) (fun v M => some (v, M)) none n a0 x1 M).mp h
  have h3 : ((none : Option (Unit × Mem)) = some (v, M1)) = False := eq_false (by intro q; cases q)
  rw [h3] at h2
  exact w_X11_begins_0 (fun v2 M2 h => by cases h; exact ⟨rfl, rfl⟩) h2

noncomputable abbrev f_X11_begins := b_X11_begins
theorem s_X11_begins {X : Nat × (Nat → Int32)} {al : Bool} {n : Nat} {a0 : Nat} {x1 : Int32} {M : Mem} {v : Unit} {M1 : Mem} (h : f_X11_begins n a0 x1 M = some (v, M1)) : AE yX11_begins cX11_begins 2 none al n X [.ref a0, .int x1] M none M1 := sb_X11_begins h
set_option maxHeartbeats 4000000 in
set_option maxRecDepth 100000 in
noncomputable def T_X11_peek_0.{u} {α : Sort u} (R : Int32 → Mem → α) (N : α) (n : Nat) (a0 : Nat) (M : Mem) : α := gd (fO M a0 11) N (if (M.2.2.1 a0 28) ≤ (M.2.2.1 a0 29) then R (-1) M else bnd (M.2.2.2.2 a0 26) N (fun r4 => gd (fA M r4 0 (M.2.2.1 a0 29)) N (R ((M.2.2.1 r4 ((M.2.2.1 a0 29).toNatClampNeg)) &&& 255) M)))
set_option maxHeartbeats 4000000 in
set_option maxRecDepth 100000 in
theorem n_X11_peek_0.{u, v} {α : Sort u} {β : Sort v} (h : α → β) (R : Int32 → Mem → α) (N : α) (n : Nat) (a0 : Nat) (M : Mem) : h (T_X11_peek_0 R N n a0 M) = T_X11_peek_0 (fun v M => h (R v M)) (h N) n a0 M := by
  simp only [T_X11_peek_0, nat_ite h, nat_gd h, nat_bnd h, nat_bnd2 h]
set_option maxHeartbeats 4000000 in
set_option maxRecDepth 100000 in
theorem w_X11_peek_0 {X : Nat × (Nat → Int32)} {al : Bool} {n : Nat} {Q : Option Value → Mem → Prop} {R : Int32 → Mem → Prop} (hR : ∀ v M, R v M → Q (some (.int v)) M) {a0 : Nat} {M : Mem} (h : T_X11_peek_0 R False n a0 M) : AW X (RX11, cX11_peek, 1, (some .int), false, al, n) 0 0 0 [(0, .ref a0)] [] M Q := by
  unfold T_X11_peek_0 at h
  refine a_aload_n dX11_peek_0 rfl rfl ?_
  obtain ⟨⟨ga1, gs2⟩, h⟩ := gd_t h
  refine a_get (v := .int (M.2.2.1 a0 29)) dX11_peek_1 fl_11_157 ga1 gs2 rfl ?_
  refine a_aload_n dX11_peek_4 rfl rfl ?_
  refine a_get (v := .int (M.2.2.1 a0 28)) dX11_peek_5 fl_11_160 ga1 gs2 rfl ?_
  refine a_icmp_ge 27 dX11_peek_8 (by decide) (fun c3 => ?_) (fun c3 => ?_)
  · replace h := ite_t c3 h
    refine a_iconst (v := -1) dX11_peek_27 (by decide) ?_
    exact a_iret dX11_peek_28 rfl (hR _ _ h)
  · replace h := ite_f c3 h
    refine a_aload_n dX11_peek_11 rfl rfl ?_
    obtain ⟨r4, e5, h⟩ := bnd_t h
    refine a_get (v := .ref r4) dX11_peek_12 fl_11_71 ga1 gs2 (gvR e5 rfl) ?_
    refine a_aload_n dX11_peek_15 rfl rfl ?_
    refine a_get (v := .int (M.2.2.1 a0 29)) dX11_peek_16 fl_11_157 ga1 gs2 rfl ?_
    obtain ⟨⟨ga6, gn7, gs8, gi9⟩, h⟩ := gd_t h
    refine a_baload dX11_peek_19 (by decide) ga6 gs8 gi9 ?_
    refine a_sipush (v := 255) dX11_peek_20 (by decide) ?_
    refine a_iand dX11_peek_23 ?_
    refine a_goto 28 dX11_peek_24 (by decide) ?_
    exact a_iret dX11_peek_28 rfl (hR _ _ h)
noncomputable def b_X11_peek (n : Nat) (a0 : Nat) (M : Mem) : Option (Int32 × Mem) := T_X11_peek_0 (fun v M => some (v, M)) none n a0 M
set_option maxHeartbeats 4000000 in
set_option maxRecDepth 100000 in
theorem sb_X11_peek {X : Nat × (Nat → Int32)} {al : Bool} {n : Nat} {a0 : Nat} {M : Mem} {v : Int32} {M1 : Mem} (h : b_X11_peek n a0 M = some (v, M1)) : AE yX11_peek cX11_peek 1 (some .int) al n X [.ref a0] M (some (.int v)) M1 := by
  refine AM.of false (by decide +kernel) (by intro h; cases h) (Nat.le_of_ble_eq_true rfl) ?_
  have h2 : T_X11_peek_0 (fun v2 M2 => some (v2, M2) = some (v, M1)) (none = some (v, M1)) n a0 M := (n_X11_peek_0 (fun o => o = some (v, M1)) (fun v M => some (v, M)) none n a0 M).mp h
  have h3 : ((none : Option (Int32 × Mem)) = some (v, M1)) = False := eq_false (by intro q; cases q)
  rw [h3] at h2
  exact w_X11_peek_0 (fun v2 M2 h => by cases h; exact ⟨rfl, rfl⟩) h2

noncomputable abbrev f_X11_peek := b_X11_peek
theorem s_X11_peek {X : Nat × (Nat → Int32)} {al : Bool} {n : Nat} {a0 : Nat} {M : Mem} {v : Int32} {M1 : Mem} (h : f_X11_peek n a0 M = some (v, M1)) : AE yX11_peek cX11_peek 1 (some .int) al n X [.ref a0] M (some (.int v)) M1 := sb_X11_peek h
def ix_X11_blanks (c : Nat) : List Nat := if c = 0 then [0] else []
def PW_X11_blanks (X : Nat × (Nat → Int32)) (al : Bool) (n : Nat) (Q : Option Value → Mem → Prop) (c : Nat) (l : List Value) (M : Mem) : Prop := AW X (RX11, cX11_blanks, 1, none, false, al, n) 0 0 c (List.zip (ix_X11_blanks c) l) (l.drop (ix_X11_blanks c).length) M Q
set_option maxHeartbeats 4000000 in
set_option maxRecDepth 100000 in
noncomputable def T_X11_blanks_0.{u} {α : Sort u} (J : Nat → List Value → Mem → α) (R : Unit → Mem → α) (N : α) (n : Nat) (a0 : Nat) (M : Mem) : α := gd (fO M a0 11) N (bnd2 (cal n (fun n => f_X11_peek n a0 M)) N (fun v3 M4 => if v3 = 32 then gd (fO M4 a0 11) N (J 0 [.ref a0] (wI M4 a0 29 ((M4.2.2.1 a0 29) + 1))) else R () M4))
set_option maxHeartbeats 4000000 in
set_option maxRecDepth 100000 in
theorem n_X11_blanks_0.{u, v} {α : Sort u} {β : Sort v} (h : α → β) (J : Nat → List Value → Mem → α) (R : Unit → Mem → α) (N : α) (n : Nat) (a0 : Nat) (M : Mem) : h (T_X11_blanks_0 J R N n a0 M) = T_X11_blanks_0 (fun c l M => h (J c l M)) (fun v M => h (R v M)) (h N) n a0 M := by
  simp only [T_X11_blanks_0, nat_ite h, nat_gd h, nat_bnd h, nat_bnd2 h]
set_option maxHeartbeats 4000000 in
set_option maxRecDepth 100000 in
theorem w_X11_blanks_0 {X : Nat × (Nat → Int32)} {al : Bool} {n : Nat} {Q : Option Value → Mem → Prop} {J : Nat → List Value → Mem → Prop} (hJ : ∀ c l M, J c l M → PW_X11_blanks X al n Q c l M) {R : Unit → Mem → Prop} (hR : ∀ v M, R v M → Q none M) {a0 : Nat} {M : Mem} (h : T_X11_blanks_0 J R False n a0 M) : AW X (RX11, cX11_blanks, 1, none, false, al, n) 0 0 0 [(0, .ref a0)] [] M Q := by
  unfold T_X11_blanks_0 at h
  refine a_aload_n dX11_blanks_0 rfl rfl ?_
  obtain ⟨⟨ga1, gs2⟩, h⟩ := gd_t h
  obtain ⟨v3, M4, e5, h⟩ := bnd2_t h
  obtain ⟨n6, en7, e5⟩ := cal_t e5
  refine e_callV (As := []) (st := []) (a := a0) (ci := 11) false dX11_blanks_1 mw_X11_peek (Or.inl ⟨rfl, ml_X11_169⟩) im_X11_peek se_X11_peek (by decide) ga1 gs2 rfl (Nat.le_of_ble_eq_true rfl) en7 (s_X11_peek e5) ?_
  refine a_bipush (v := 32) dX11_blanks_4 (by decide) ?_
  refine a_icmp_ne 22 dX11_blanks_6 (by decide) (fun c8 => ?_) (fun c8 => ?_)
  · replace h := ite_f c8 h
    exact a_vret dX11_blanks_22 rfl (hR _ _ h)
  · replace h := ite_t c8 h
    refine a_aload_n dX11_blanks_9 rfl rfl ?_
    refine a_dup dX11_blanks_10 rfl ?_
    obtain ⟨⟨ga9, gs10⟩, h⟩ := gd_t h
    refine a_get (v := .int (M4.2.2.1 a0 29)) dX11_blanks_11 fl_11_157 ga9 gs10 rfl ?_
    refine a_iconst (v := 1) dX11_blanks_14 (by decide) ?_
    refine a_iadd dX11_blanks_15 ?_
    refine a_putI dX11_blanks_16 (Or.inl ⟨fl_11_157, Or.inl rfl⟩) rfl ga9 gs10 rfl rfl ?_
    refine a_goto 0 dX11_blanks_19 (by decide) ?_
    exact a_lv (lv2 := [(0, .ref a0)]) (fa_cons rfl fa_nil) (hJ _ _ _ h)
set_option maxHeartbeats 4000000 in
set_option maxRecDepth 100000 in
noncomputable def st_X11_blanks (n : Nat) (s : Sg) : Option (Sg ⊕ (Unit × Mem)) := if s.1 = 0 then vR s.2.1 none (fun a0 t => vE t none (T_X11_blanks_0 (fun c l M => some (.inl (c, l, M))) (fun v M => some (.inr (v, M))) none n a0 s.2.2)) else none
noncomputable abbrev g_X11_blanks_0 (n : Nat) (a0 : Nat) (M : Mem) : Option (Unit × Mem) := lp (st_X11_blanks n) (0, [.ref a0], M)
set_option maxHeartbeats 4000000 in
set_option maxRecDepth 100000 in
theorem ge_X11_blanks_0 (n : Nat) (a0 : Nat) (M : Mem) : g_X11_blanks_0 n a0 M = T_X11_blanks_0 (fun c l M => lp (st_X11_blanks n) (c, l, M)) (fun v M => some (v, M)) none n a0 M := (lp_eq _ _).trans (n_X11_blanks_0 (lpK (st_X11_blanks n)) (fun c l M => some (.inl (c, l, M))) (fun v M => some (.inr (v, M))) none n a0 M)
noncomputable def b_X11_blanks (n : Nat) (a0 : Nat) (M : Mem) : Option (Unit × Mem) := g_X11_blanks_0 n a0 M
set_option maxHeartbeats 4000000 in
set_option maxRecDepth 100000 in
theorem sb_X11_blanks {X : Nat × (Nat → Int32)} {al : Bool} {n : Nat} {a0 : Nat} {M : Mem} {v : Unit} {M1 : Mem} (h : b_X11_blanks n a0 M = some (v, M1)) : AE yX11_blanks cX11_blanks 1 none al n X [.ref a0] M none M1 := by
  refine AM.of false (by decide +kernel) (by intro h; cases h) (Nat.le_of_ble_eq_true rfl) ?_
  refine lp_snd (P := fun s r => PW_X11_blanks X al n (fun v M2 => v = none ∧ M2 = r.2) s.1 s.2.1 s.2.2) ?_ h
  clear h
  rintro ⟨c, l, M⟩ r h
  unfold st_X11_blanks at h
  rcases ite_p h with ⟨e, h⟩ | ⟨e, h⟩
  · replace e : c = 0 := e
    subst e
    obtain ⟨a0, tt0, e, h⟩ := vR_p id h
    replace e : l = _ := e
    subst e
    obtain ⟨e, h⟩ := vE_p id h
    replace e : tt0 = [] := e
    subst e
    exact w_X11_blanks_0 (J := fun c l M => PW_X11_blanks X al n (fun v M2 => v = none ∧ M2 = r.2) c l M) (R := fun v M => (v, M) = r) (fun _ _ _ h => h) (fun v M h => by cases h; exact ⟨rfl, rfl⟩) ((n_X11_blanks_0 (lpP (fun (s : Sg) (r : Unit × Mem) => PW_X11_blanks X al n (fun v M2 => v = none ∧ M2 = r.2) s.1 s.2.1 s.2.2) r) (fun c l M => some (.inl (c, l, M))) (fun v M => some (.inr (v, M))) none n a0 M).mp h)
  · exact h.elim

noncomputable abbrev f_X11_blanks := b_X11_blanks
theorem s_X11_blanks {X : Nat × (Nat → Int32)} {al : Bool} {n : Nat} {a0 : Nat} {M : Mem} {v : Unit} {M1 : Mem} (h : f_X11_blanks n a0 M = some (v, M1)) : AE yX11_blanks cX11_blanks 1 none al n X [.ref a0] M none M1 := sb_X11_blanks h
set_option maxHeartbeats 4000000 in
set_option maxRecDepth 100000 in
noncomputable def T_X11_isOver_0.{u} {α : Sort u} (R : Int32 → Mem → α) (N : α) (n : Nat) (a0 : Nat) (M : Mem) : α := gd (fO M a0 11) N (bnd2 (cal n (fun n => f_X11_blanks n a0 M)) N (fun _ M3 => gd (fO M3 a0 11) N (if (M3.2.2.1 a0 30) = 0 then bnd2 (cal n (fun n => f_X11_peek n a0 M3)) N (fun v10 M11 => if v10 = (-1) then R 1 M11 else R 0 M11) else R 1 M3)))
set_option maxHeartbeats 4000000 in
set_option maxRecDepth 100000 in
theorem n_X11_isOver_0.{u, v} {α : Sort u} {β : Sort v} (h : α → β) (R : Int32 → Mem → α) (N : α) (n : Nat) (a0 : Nat) (M : Mem) : h (T_X11_isOver_0 R N n a0 M) = T_X11_isOver_0 (fun v M => h (R v M)) (h N) n a0 M := by
  simp only [T_X11_isOver_0, nat_ite h, nat_gd h, nat_bnd h, nat_bnd2 h]
set_option maxHeartbeats 4000000 in
set_option maxRecDepth 100000 in
theorem w_X11_isOver_0 {X : Nat × (Nat → Int32)} {al : Bool} {n : Nat} {Q : Option Value → Mem → Prop} {R : Int32 → Mem → Prop} (hR : ∀ v M, R v M → Q (some (.int v)) M) {a0 : Nat} {M : Mem} (h : T_X11_isOver_0 R False n a0 M) : AW X (RX11, cX11_isOver, 1, (some .boolean), false, al, n) 0 0 0 [(0, .ref a0)] [] M Q := by
  unfold T_X11_isOver_0 at h
  refine a_aload_n dX11_isOver_0 rfl rfl ?_
  obtain ⟨⟨ga1, gs2⟩, h⟩ := gd_t h
  obtain ⟨_, M3, e4, h⟩ := bnd2_t h
  obtain ⟨n5, en6, e4⟩ := cal_t e4
  refine e_callV (As := []) (st := []) (a := a0) (ci := 11) false dX11_isOver_1 mw_X11_blanks (Or.inl ⟨rfl, ml_X11_173⟩) im_X11_blanks se_X11_blanks (by decide) ga1 gs2 rfl (Nat.le_of_ble_eq_true rfl) en6 (s_X11_blanks e4) ?_
  refine a_aload_n dX11_isOver_4 rfl rfl ?_
  obtain ⟨⟨ga7, gs8⟩, h⟩ := gd_t h
  refine a_get (v := .int (M3.2.2.1 a0 30)) dX11_isOver_5 fl_11_163 ga7 gs8 rfl ?_
  refine a_if_ne 19 dX11_isOver_8 (by decide) (fun c9 => ?_) (fun c9 => ?_)
  · replace h := ite_f c9 h
    refine a_iconst (v := 1) dX11_isOver_19 (by decide) ?_
    refine a_goto 24 dX11_isOver_20 (by decide) ?_
    exact a_zret dX11_isOver_24 rfl rfl (hR _ _ h)
  · replace h := ite_t c9 h
    refine a_aload_n dX11_isOver_11 rfl rfl ?_
    obtain ⟨v10, M11, e12, h⟩ := bnd2_t h
    obtain ⟨n13, en14, e12⟩ := cal_t e12
    refine e_callV (As := []) (st := []) (a := a0) (ci := 11) false dX11_isOver_12 mw_X11_peek (Or.inl ⟨rfl, ml_X11_169⟩) im_X11_peek se_X11_peek (by decide) ga7 gs8 rfl (Nat.le_of_ble_eq_true rfl) en14 (s_X11_peek e12) ?_
    refine a_iconst (v := -1) dX11_isOver_15 (by decide) ?_
    refine a_icmp_ne 23 dX11_isOver_16 (by decide) (fun c15 => ?_) (fun c15 => ?_)
    · replace h := ite_f c15 h
      refine a_iconst (v := 0) dX11_isOver_23 (by decide) ?_
      exact a_zret dX11_isOver_24 rfl rfl (hR _ _ h)
    · replace h := ite_t c15 h
      refine a_iconst (v := 1) dX11_isOver_19 (by decide) ?_
      refine a_goto 24 dX11_isOver_20 (by decide) ?_
      exact a_zret dX11_isOver_24 rfl rfl (hR _ _ h)
noncomputable def b_X11_isOver (n : Nat) (a0 : Nat) (M : Mem) : Option (Int32 × Mem) := T_X11_isOver_0 (fun v M => some (v, M)) none n a0 M
set_option maxHeartbeats 4000000 in
set_option maxRecDepth 100000 in
theorem sb_X11_isOver {X : Nat × (Nat → Int32)} {al : Bool} {n : Nat} {a0 : Nat} {M : Mem} {v : Int32} {M1 : Mem} (h : b_X11_isOver n a0 M = some (v, M1)) : AE yX11_isOver cX11_isOver 1 (some .boolean) al n X [.ref a0] M (some (.int v)) M1 := by
  refine AM.of false (by decide +kernel) (by intro h; cases h) (Nat.le_of_ble_eq_true rfl) ?_
  have h2 : T_X11_isOver_0 (fun v2 M2 => some (v2, M2) = some (v, M1)) (none = some (v, M1)) n a0 M := (n_X11_isOver_0 (fun o => o = some (v, M1)) (fun v M => some (v, M)) none n a0 M).mp h
  have h3 : ((none : Option (Int32 × Mem)) = some (v, M1)) = False := eq_false (by intro q; cases q)
  rw [h3] at h2
  exact w_X11_isOver_0 (fun v2 M2 h => by cases h; exact ⟨rfl, rfl⟩) h2

noncomputable abbrev f_X11_isOver := b_X11_isOver
theorem s_X11_isOver {X : Nat × (Nat → Int32)} {al : Bool} {n : Nat} {a0 : Nat} {M : Mem} {v : Int32} {M1 : Mem} (h : f_X11_isOver n a0 M = some (v, M1)) : AE yX11_isOver cX11_isOver 1 (some .boolean) al n X [.ref a0] M (some (.int v)) M1 := sb_X11_isOver h
def ix_X11_lettersHere (c : Nat) : List Nat := if c = 0 then [0] else if c = 9 then [0, 1] else []
def PW_X11_lettersHere (X : Nat × (Nat → Int32)) (al : Bool) (n : Nat) (Q : Option Value → Mem → Prop) (c : Nat) (l : List Value) (M : Mem) : Prop := AW X (RX11, cX11_lettersHere, 2, (some .int), false, al, n) 0 0 c (List.zip (ix_X11_lettersHere c) l) (l.drop (ix_X11_lettersHere c).length) M Q
set_option maxHeartbeats 4000000 in
set_option maxRecDepth 100000 in
noncomputable def T_X11_lettersHere_0.{u} {α : Sort u} (J : Nat → List Value → Mem → α) (R : Int32 → Mem → α) (N : α) (n : Nat) (a0 : Nat) (M : Mem) : α := gd (fO M a0 11) N (bnd2 (cal n (fun n => f_X11_blanks n a0 M)) N (fun _ M3 => gd (fO M3 a0 11) N (J 9 [.ref a0, .int (M3.2.2.1 a0 29)] M3)))
set_option maxHeartbeats 4000000 in
set_option maxRecDepth 100000 in
theorem n_X11_lettersHere_0.{u, v} {α : Sort u} {β : Sort v} (h : α → β) (J : Nat → List Value → Mem → α) (R : Int32 → Mem → α) (N : α) (n : Nat) (a0 : Nat) (M : Mem) : h (T_X11_lettersHere_0 J R N n a0 M) = T_X11_lettersHere_0 (fun c l M => h (J c l M)) (fun v M => h (R v M)) (h N) n a0 M := by
  simp only [T_X11_lettersHere_0, nat_ite h, nat_gd h, nat_bnd h, nat_bnd2 h]
set_option maxHeartbeats 4000000 in
set_option maxRecDepth 100000 in
theorem w_X11_lettersHere_0 {X : Nat × (Nat → Int32)} {al : Bool} {n : Nat} {Q : Option Value → Mem → Prop} {J : Nat → List Value → Mem → Prop} (hJ : ∀ c l M, J c l M → PW_X11_lettersHere X al n Q c l M) {R : Int32 → Mem → Prop} (hR : ∀ v M, R v M → Q (some (.int v)) M) {a0 : Nat} {M : Mem} (h : T_X11_lettersHere_0 J R False n a0 M) : AW X (RX11, cX11_lettersHere, 2, (some .int), false, al, n) 0 0 0 [(0, .ref a0)] [] M Q := by
  unfold T_X11_lettersHere_0 at h
  refine a_aload_n dX11_lettersHere_0 rfl rfl ?_
  obtain ⟨⟨ga1, gs2⟩, h⟩ := gd_t h
  obtain ⟨_, M3, e4, h⟩ := bnd2_t h
  obtain ⟨n5, en6, e4⟩ := cal_t e4
  refine e_callV (As := []) (st := []) (a := a0) (ci := 11) false dX11_lettersHere_1 mw_X11_blanks (Or.inl ⟨rfl, ml_X11_173⟩) im_X11_blanks se_X11_blanks (by decide) ga1 gs2 rfl (Nat.le_of_ble_eq_true rfl) en6 (s_X11_blanks e4) ?_
  refine a_aload_n dX11_lettersHere_4 rfl rfl ?_
  obtain ⟨⟨ga7, gs8⟩, h⟩ := gd_t h
  refine a_get (v := .int (M3.2.2.1 a0 29)) dX11_lettersHere_5 fl_11_157 ga7 gs8 rfl ?_
  refine a_istore_n dX11_lettersHere_8 rfl (Nat.le_of_ble_eq_true rfl) (lv2 := [(1, .int (M3.2.2.1 a0 29)), (0, .ref a0)]) rfl ?_
  exact a_lv (lv2 := [(0, .ref a0), (1, .int (M3.2.2.1 a0 29))]) (fa_cons rfl (fa_cons rfl fa_nil)) (hJ _ _ _ h)
set_option maxHeartbeats 4000000 in
set_option maxRecDepth 100000 in
noncomputable def T_X11_lettersHere_9.{u} {α : Sort u} (J : Nat → List Value → Mem → α) (R : Int32 → Mem → α) (N : α) (n : Nat) (a0 : Nat) (x1 : Int32) (M : Mem) : α := gd (fO M a0 11) N (if (M.2.2.1 a0 28) ≤ x1 then R (x1 - (M.2.2.1 a0 29)) M else bnd (M.2.2.2.2 a0 26) N (fun r4 => gd (fA M r4 0 x1) N (bnd2 (cal n (fun n => f_X11_isIn n (Int32.toInt64 (M.2.2.1 r4 (x1.toNatClampNeg))) (97) (122) M)) N (fun v10 M11 => if v10 = 0 then gd (fO M11 a0 11) N (R (x1 - (M11.2.2.1 a0 29)) M11) else J 9 [.ref a0, .int (x1 + 1)] M11))))
set_option maxHeartbeats 4000000 in
set_option maxRecDepth 100000 in
theorem n_X11_lettersHere_9.{u, v} {α : Sort u} {β : Sort v} (h : α → β) (J : Nat → List Value → Mem → α) (R : Int32 → Mem → α) (N : α) (n : Nat) (a0 : Nat) (x1 : Int32) (M : Mem) : h (T_X11_lettersHere_9 J R N n a0 x1 M) = T_X11_lettersHere_9 (fun c l M => h (J c l M)) (fun v M => h (R v M)) (h N) n a0 x1 M := by
  simp only [T_X11_lettersHere_9, nat_ite h, nat_gd h, nat_bnd h, nat_bnd2 h]
set_option maxHeartbeats 4000000 in
set_option maxRecDepth 100000 in
theorem w_X11_lettersHere_9 {X : Nat × (Nat → Int32)} {al : Bool} {n : Nat} {Q : Option Value → Mem → Prop} {J : Nat → List Value → Mem → Prop} (hJ : ∀ c l M, J c l M → PW_X11_lettersHere X al n Q c l M) {R : Int32 → Mem → Prop} (hR : ∀ v M, R v M → Q (some (.int v)) M) {a0 : Nat} {x1 : Int32} {M : Mem} (h : T_X11_lettersHere_9 J R False n a0 x1 M) : AW X (RX11, cX11_lettersHere, 2, (some .int), false, al, n) 0 0 9 [(0, .ref a0), (1, .int x1)] [] M Q := by
  unfold T_X11_lettersHere_9 at h
  refine a_iload_n dX11_lettersHere_9 rfl rfl ?_
  refine a_aload_n dX11_lettersHere_10 rfl rfl ?_
  obtain ⟨⟨ga1, gs2⟩, h⟩ := gd_t h
  refine a_get (v := .int (M.2.2.1 a0 28)) dX11_lettersHere_11 fl_11_160 ga1 gs2 rfl ?_
  refine a_icmp_ge 42 dX11_lettersHere_14 (by decide) (fun c3 => ?_) (fun c3 => ?_)
  · replace h := ite_t c3 h
    refine a_iload_n dX11_lettersHere_42 rfl rfl ?_
    refine a_aload_n dX11_lettersHere_43 rfl rfl ?_
    refine a_get (v := .int (M.2.2.1 a0 29)) dX11_lettersHere_44 fl_11_157 ga1 gs2 rfl ?_
    refine a_isub dX11_lettersHere_47 ?_
    exact a_iret dX11_lettersHere_48 rfl (hR _ _ h)
  · replace h := ite_f c3 h
    refine a_aload_n dX11_lettersHere_17 rfl rfl ?_
    obtain ⟨r4, e5, h⟩ := bnd_t h
    refine a_get (v := .ref r4) dX11_lettersHere_18 fl_11_71 ga1 gs2 (gvR e5 rfl) ?_
    refine a_iload_n dX11_lettersHere_21 rfl rfl ?_
    obtain ⟨⟨ga6, gn7, gs8, gi9⟩, h⟩ := gd_t h
    refine a_baload dX11_lettersHere_22 (by decide) ga6 gs8 gi9 ?_
    refine a_i2l dX11_lettersHere_23 ?_
    refine a_ldc2 dX11_lettersHere_24 co_X11_176 ?_
    refine a_ldc2 dX11_lettersHere_27 co_X11_178 ?_
    obtain ⟨v10, M11, e12, h⟩ := bnd2_t h
    obtain ⟨n13, en14, e12⟩ := cal_t e12
    refine e_callS (As := [.long (Int32.toInt64 (M.2.2.1 r4 (x1.toNatClampNeg))), .long (97), .long (122)]) (st := []) false dX11_lettersHere_30 mw_X11_isIn (Or.inl ⟨rfl, ml_X11_180⟩) sm_X11_isIn rfl (Nat.le_of_ble_eq_true rfl) en14 (s_X11_isIn e12) ?_
    refine a_if_eq 42 dX11_lettersHere_33 (by decide) (fun c15 => ?_) (fun c15 => ?_)
    · replace h := ite_t c15 h
      refine a_iload_n dX11_lettersHere_42 rfl rfl ?_
      refine a_aload_n dX11_lettersHere_43 rfl rfl ?_
      obtain ⟨⟨ga16, gs17⟩, h⟩ := gd_t h
      refine a_get (v := .int (M11.2.2.1 a0 29)) dX11_lettersHere_44 fl_11_157 ga16 gs17 rfl ?_
      refine a_isub dX11_lettersHere_47 ?_
      exact a_iret dX11_lettersHere_48 rfl (hR _ _ h)
    · replace h := ite_f c15 h
      refine a_iinc (v := (x1 + 1)) dX11_lettersHere_36 rfl (by first | rfl | decide) (Nat.le_of_ble_eq_true rfl) (lv2 := [(1, .int (x1 + 1)), (0, .ref a0)]) rfl ?_
      refine a_goto 9 dX11_lettersHere_39 (by decide) ?_
      exact a_lv (lv2 := [(0, .ref a0), (1, .int (x1 + 1))]) (fa_cons rfl (fa_cons rfl fa_nil)) (hJ _ _ _ h)
set_option maxHeartbeats 4000000 in
set_option maxRecDepth 100000 in
noncomputable def st_X11_lettersHere (n : Nat) (s : Sg) : Option (Sg ⊕ (Int32 × Mem)) := if s.1 = 0 then vR s.2.1 none (fun a0 t => vE t none (T_X11_lettersHere_0 (fun c l M => some (.inl (c, l, M))) (fun v M => some (.inr (v, M))) none n a0 s.2.2)) else if s.1 = 9 then vR s.2.1 none (fun a0 t => vI t none (fun x1 t => vE t none (T_X11_lettersHere_9 (fun c l M => some (.inl (c, l, M))) (fun v M => some (.inr (v, M))) none n a0 x1 s.2.2))) else none
noncomputable abbrev g_X11_lettersHere_0 (n : Nat) (a0 : Nat) (M : Mem) : Option (Int32 × Mem) := lp (st_X11_lettersHere n) (0, [.ref a0], M)
set_option maxHeartbeats 4000000 in
set_option maxRecDepth 100000 in
theorem ge_X11_lettersHere_0 (n : Nat) (a0 : Nat) (M : Mem) : g_X11_lettersHere_0 n a0 M = T_X11_lettersHere_0 (fun c l M => lp (st_X11_lettersHere n) (c, l, M)) (fun v M => some (v, M)) none n a0 M := (lp_eq _ _).trans (n_X11_lettersHere_0 (lpK (st_X11_lettersHere n)) (fun c l M => some (.inl (c, l, M))) (fun v M => some (.inr (v, M))) none n a0 M)
noncomputable abbrev g_X11_lettersHere_9 (n : Nat) (a0 : Nat) (x1 : Int32) (M : Mem) : Option (Int32 × Mem) := lp (st_X11_lettersHere n) (9, [.ref a0, .int x1], M)
set_option maxHeartbeats 4000000 in
set_option maxRecDepth 100000 in
theorem ge_X11_lettersHere_9 (n : Nat) (a0 : Nat) (x1 : Int32) (M : Mem) : g_X11_lettersHere_9 n a0 x1 M = T_X11_lettersHere_9 (fun c l M => lp (st_X11_lettersHere n) (c, l, M)) (fun v M => some (v, M)) none n a0 x1 M := (lp_eq _ _).trans (n_X11_lettersHere_9 (lpK (st_X11_lettersHere n)) (fun c l M => some (.inl (c, l, M))) (fun v M => some (.inr (v, M))) none n a0 x1 M)
noncomputable def b_X11_lettersHere (n : Nat) (a0 : Nat) (M : Mem) : Option (Int32 × Mem) := g_X11_lettersHere_0 n a0 M
set_option maxHeartbeats 4000000 in
set_option maxRecDepth 100000 in
theorem sb_X11_lettersHere {X : Nat × (Nat → Int32)} {al : Bool} {n : Nat} {a0 : Nat} {M : Mem} {v : Int32} {M1 : Mem} (h : b_X11_lettersHere n a0 M = some (v, M1)) : AE yX11_lettersHere cX11_lettersHere 2 (some .int) al n X [.ref a0] M (some (.int v)) M1 := by
  refine AM.of false (by decide +kernel) (by intro h; cases h) (Nat.le_of_ble_eq_true rfl) ?_
  refine lp_snd (P := fun s r => PW_X11_lettersHere X al n (fun v M2 => v = (some (.int r.1)) ∧ M2 = r.2) s.1 s.2.1 s.2.2) ?_ h
  clear h
  rintro ⟨c, l, M⟩ r h
  unfold st_X11_lettersHere at h
  rcases ite_p h with ⟨e, h⟩ | ⟨e, h⟩
  · replace e : c = 0 := e
    subst e
    obtain ⟨a0, tt0, e, h⟩ := vR_p id h
    replace e : l = _ := e
    subst e
    obtain ⟨e, h⟩ := vE_p id h
    replace e : tt0 = [] := e
    subst e
    exact w_X11_lettersHere_0 (J := fun c l M => PW_X11_lettersHere X al n (fun v M2 => v = (some (.int r.1)) ∧ M2 = r.2) c l M) (R := fun v M => (v, M) = r) (fun _ _ _ h => h) (fun v M h => by cases h; exact ⟨rfl, rfl⟩) ((n_X11_lettersHere_0 (lpP (fun (s : Sg) (r : Int32 × Mem) => PW_X11_lettersHere X al n (fun v M2 => v = (some (.int r.1)) ∧ M2 = r.2) s.1 s.2.1 s.2.2) r) (fun c l M => some (.inl (c, l, M))) (fun v M => some (.inr (v, M))) none n a0 M).mp h)
  rcases ite_p h with ⟨e, h⟩ | ⟨e, h⟩
  · replace e : c = 9 := e
    subst e
    obtain ⟨a0, tt0, e, h⟩ := vR_p id h
    replace e : l = _ := e
    subst e
    obtain ⟨x1, tt1, e, h⟩ := vI_p id h
    replace e : tt0 = _ := e
    subst e
    obtain ⟨e, h⟩ := vE_p id h
    replace e : tt1 = [] := e
    subst e
    exact w_X11_lettersHere_9 (J := fun c l M => PW_X11_lettersHere X al n (fun v M2 => v = (some (.int r.1)) ∧ M2 = r.2) c l M) (R := fun v M => (v, M) = r) (fun _ _ _ h => h) (fun v M h => by cases h; exact ⟨rfl, rfl⟩) ((n_X11_lettersHere_9 (lpP (fun (s : Sg) (r : Int32 × Mem) => PW_X11_lettersHere X al n (fun v M2 => v = (some (.int r.1)) ∧ M2 = r.2) s.1 s.2.1 s.2.2) r) (fun c l M => some (.inl (c, l, M))) (fun v M => some (.inr (v, M))) none n a0 x1 M).mp h)
  · exact h.elim

noncomputable abbrev f_X11_lettersHere := b_X11_lettersHere
theorem s_X11_lettersHere {X : Nat × (Nat → Int32)} {al : Bool} {n : Nat} {a0 : Nat} {M : Mem} {v : Int32} {M1 : Mem} (h : f_X11_lettersHere n a0 M = some (v, M1)) : AE yX11_lettersHere cX11_lettersHere 2 (some .int) al n X [.ref a0] M (some (.int v)) M1 := sb_X11_lettersHere h
def ix_X11_wordNext (c : Nat) : List Nat := if c = 0 then [0] else if c = 9 then [0, 1, 2, 3] else if c = 21 then [0, 1, 2, 3, 4] else if c = 57 then [0, 1, 2, 3, 4, 5, 6] else if c = 106 then [0, 1, 2, 3, 4, 5] else []
def PW_X11_wordNext (X : Nat × (Nat → Int32)) (al : Bool) (n : Nat) (Q : Option Value → Mem → Prop) (c : Nat) (l : List Value) (M : Mem) : Prop := AW X (RX11, cX11_wordNext, 7, (some .int), false, al, n) 0 0 c (List.zip (ix_X11_wordNext c) l) (l.drop (ix_X11_wordNext c).length) M Q
set_option maxHeartbeats 4000000 in
set_option maxRecDepth 100000 in
noncomputable def T_X11_wordNext_0.{u} {α : Sort u} (J : Nat → List Value → Mem → α) (R : Int32 → Mem → α) (N : α) (n : Nat) (a0 : Nat) (M : Mem) : α := gd (fO M a0 11) N (bnd2 (cal n (fun n => f_X11_lettersHere n a0 M)) N (fun v3 M4 => J 9 [.ref a0, .int v3, .int 0, .int 0] M4))
set_option maxHeartbeats 4000000 in
set_option maxRecDepth 100000 in
theorem n_X11_wordNext_0.{u, v} {α : Sort u} {β : Sort v} (h : α → β) (J : Nat → List Value → Mem → α) (R : Int32 → Mem → α) (N : α) (n : Nat) (a0 : Nat) (M : Mem) : h (T_X11_wordNext_0 J R N n a0 M) = T_X11_wordNext_0 (fun c l M => h (J c l M)) (fun v M => h (R v M)) (h N) n a0 M := by
  simp only [T_X11_wordNext_0, nat_ite h, nat_gd h, nat_bnd h, nat_bnd2 h]
set_option maxHeartbeats 4000000 in
set_option maxRecDepth 100000 in
theorem w_X11_wordNext_0 {X : Nat × (Nat → Int32)} {al : Bool} {n : Nat} {Q : Option Value → Mem → Prop} {J : Nat → List Value → Mem → Prop} (hJ : ∀ c l M, J c l M → PW_X11_wordNext X al n Q c l M) {R : Int32 → Mem → Prop} (hR : ∀ v M, R v M → Q (some (.int v)) M) {a0 : Nat} {M : Mem} (h : T_X11_wordNext_0 J R False n a0 M) : AW X (RX11, cX11_wordNext, 7, (some .int), false, al, n) 0 0 0 [(0, .ref a0)] [] M Q := by
  unfold T_X11_wordNext_0 at h
  refine a_aload_n dX11_wordNext_0 rfl rfl ?_
  obtain ⟨⟨ga1, gs2⟩, h⟩ := gd_t h
  obtain ⟨v3, M4, e5, h⟩ := bnd2_t h
  obtain ⟨n6, en7, e5⟩ := cal_t e5
  refine e_callV (As := []) (st := []) (a := a0) (ci := 11) false dX11_wordNext_1 mw_X11_lettersHere (Or.inl ⟨rfl, ml_X11_184⟩) im_X11_lettersHere se_X11_lettersHere (by decide) ga1 gs2 rfl (Nat.le_of_ble_eq_true rfl) en7 (s_X11_lettersHere e5) ?_
  refine a_istore_n dX11_wordNext_4 rfl (Nat.le_of_ble_eq_true rfl) (lv2 := [(1, .int v3), (0, .ref a0)]) rfl ?_
  refine a_iconst (v := 0) dX11_wordNext_5 (by decide) ?_
  refine a_istore_n dX11_wordNext_6 rfl (Nat.le_of_ble_eq_true rfl) (lv2 := [(2, .int 0), (1, .int v3), (0, .ref a0)]) rfl ?_
  refine a_iconst (v := 0) dX11_wordNext_7 (by decide) ?_
  refine a_istore_n dX11_wordNext_8 rfl (Nat.le_of_ble_eq_true rfl) (lv2 := [(3, .int 0), (2, .int 0), (1, .int v3), (0, .ref a0)]) rfl ?_
  exact a_lv (lv2 := [(0, .ref a0), (1, .int v3), (2, .int 0), (3, .int 0)]) (fa_cons rfl (fa_cons rfl (fa_cons rfl (fa_cons rfl fa_nil)))) (hJ _ _ _ h)
set_option maxHeartbeats 4000000 in
set_option maxRecDepth 100000 in
noncomputable def T_X11_wordNext_9.{u} {α : Sort u} (J : Nat → List Value → Mem → α) (R : Int32 → Mem → α) (N : α) (n : Nat) (a0 : Nat) (x1 : Int32) (x2 : Int32) (x3 : Int32) (M : Mem) : α := gd (2 ≤ n) N (if 74 ≤ x3 then R (-1) M else J 21 [.ref a0, .int x1, .int x2, .int x3, .int 0] M)
set_option maxHeartbeats 4000000 in
set_option maxRecDepth 100000 in
theorem n_X11_wordNext_9.{u, v} {α : Sort u} {β : Sort v} (h : α → β) (J : Nat → List Value → Mem → α) (R : Int32 → Mem → α) (N : α) (n : Nat) (a0 : Nat) (x1 : Int32) (x2 : Int32) (x3 : Int32) (M : Mem) : h (T_X11_wordNext_9 J R N n a0 x1 x2 x3 M) = T_X11_wordNext_9 (fun c l M => h (J c l M)) (fun v M => h (R v M)) (h N) n a0 x1 x2 x3 M := by
  simp only [T_X11_wordNext_9, nat_ite h, nat_gd h, nat_bnd h, nat_bnd2 h]
set_option maxHeartbeats 4000000 in
set_option maxRecDepth 100000 in
theorem w_X11_wordNext_9 {X : Nat × (Nat → Int32)} {al : Bool} {n : Nat} {Q : Option Value → Mem → Prop} {J : Nat → List Value → Mem → Prop} (hJ : ∀ c l M, J c l M → PW_X11_wordNext X al n Q c l M) {R : Int32 → Mem → Prop} (hR : ∀ v M, R v M → Q (some (.int v)) M) {a0 : Nat} {x1 : Int32} {x2 : Int32} {x3 : Int32} {M : Mem} (h : T_X11_wordNext_9 J R False n a0 x1 x2 x3 M) : AW X (RX11, cX11_wordNext, 7, (some .int), false, al, n) 0 0 9 [(0, .ref a0), (1, .int x1), (2, .int x2), (3, .int x3)] [] M Q := by
  unfold T_X11_wordNext_9 at h
  refine a_iload_n dX11_wordNext_9 rfl rfl ?_
  refine a_ldcB dX11_wordNext_10 rfl ?_
  obtain ⟨gf1, h⟩ := gd_t h
  obtain ⟨n2, en3⟩ : ∃ k, n = k + 2 := ⟨n - 2, by omega⟩
  refine e_callT (As := []) (st := [.int x3]) (i := 1) dX11_wordNext_12 mw_J0_length_8abf5 ml_X11_189 im_J0_length_8abf5 se_J0_length_8abf5 (by decide) rfl (Nat.le_of_ble_eq_true rfl) en3 k_tlen1 ?_
  refine a_icmp_ge 126 dX11_wordNext_15 (by decide) (fun c4 => ?_) (fun c4 => ?_)
  · replace h := ite_t c4 h
    refine a_iconst (v := -1) dX11_wordNext_126 (by decide) ?_
    exact a_iret dX11_wordNext_127 rfl (hR _ _ h)
  · replace h := ite_f c4 h
    refine a_iconst (v := 0) dX11_wordNext_18 (by decide) ?_
    refine a_istore dX11_wordNext_19 (Nat.le_of_ble_eq_true rfl) (lv2 := [(4, .int 0), (0, .ref a0), (1, .int x1), (2, .int x2), (3, .int x3)]) rfl ?_
    exact a_lv (lv2 := [(0, .ref a0), (1, .int x1), (2, .int x2), (3, .int x3), (4, .int 0)]) (fa_cons rfl (fa_cons rfl (fa_cons rfl (fa_cons rfl (fa_cons rfl fa_nil))))) (hJ _ _ _ h)
set_option maxHeartbeats 4000000 in
set_option maxRecDepth 100000 in
noncomputable def T_X11_wordNext_21.{u} {α : Sort u} (J : Nat → List Value → Mem → α) (R : Int32 → Mem → α) (N : α) (n : Nat) (a0 : Nat) (x1 : Int32) (x2 : Int32) (x3 : Int32) (x4 : Int32) (M : Mem) : α := gd (4 ≤ n ∧ vp_in (x3 + x4) 74) N (if (tch 1 (x3 + x4).toNatClampNeg) = 32 then if x4 = x1 then J 57 [.ref a0, .int x1, .int x2, .int x3, .int x4, .int 1, .int 0] M else J 57 [.ref a0, .int x1, .int x2, .int x3, .int x4, .int 0, .int 0] M else J 21 [.ref a0, .int x1, .int x2, .int x3, .int (x4 + 1)] M)
set_option maxHeartbeats 4000000 in
set_option maxRecDepth 100000 in
theorem n_X11_wordNext_21.{u, v} {α : Sort u} {β : Sort v} (h : α → β) (J : Nat → List Value → Mem → α) (R : Int32 → Mem → α) (N : α) (n : Nat) (a0 : Nat) (x1 : Int32) (x2 : Int32) (x3 : Int32) (x4 : Int32) (M : Mem) : h (T_X11_wordNext_21 J R N n a0 x1 x2 x3 x4 M) = T_X11_wordNext_21 (fun c l M => h (J c l M)) (fun v M => h (R v M)) (h N) n a0 x1 x2 x3 x4 M := by
  simp only [T_X11_wordNext_21, nat_ite h, nat_gd h, nat_bnd h, nat_bnd2 h]
set_option maxHeartbeats 4000000 in
set_option maxRecDepth 100000 in
theorem w_X11_wordNext_21 {X : Nat × (Nat → Int32)} {al : Bool} {n : Nat} {Q : Option Value → Mem → Prop} {J : Nat → List Value → Mem → Prop} (hJ : ∀ c l M, J c l M → PW_X11_wordNext X al n Q c l M) {R : Int32 → Mem → Prop} (hR : ∀ v M, R v M → Q (some (.int v)) M) {a0 : Nat} {x1 : Int32} {x2 : Int32} {x3 : Int32} {x4 : Int32} {M : Mem} (h : T_X11_wordNext_21 J R False n a0 x1 x2 x3 x4 M) : AW X (RX11, cX11_wordNext, 7, (some .int), false, al, n) 0 0 21 [(0, .ref a0), (1, .int x1), (2, .int x2), (3, .int x3), (4, .int x4)] [] M Q := by
  unfold T_X11_wordNext_21 at h
  refine a_ldcB dX11_wordNext_21 rfl ?_
  refine a_iload_n dX11_wordNext_23 rfl rfl ?_
  refine a_iload dX11_wordNext_24 rfl ?_
  refine a_iadd dX11_wordNext_26 ?_
  obtain ⟨⟨gf1, gi4⟩, h⟩ := gd_t h
  obtain ⟨n2, en3⟩ : ∃ k, n = k + 4 := ⟨n - 4, by omega⟩
  refine e_callT (As := [.int (x3 + x4)]) (st := []) (i := 1) dX11_wordNext_27 mw_J0_charAt_5068e ml_X11_194 im_J0_charAt_5068e se_J0_charAt_5068e (by decide) rfl (Nat.le_of_ble_eq_true rfl) en3 (k_charAt1 gi4) ?_
  refine a_bipush (v := 32) dX11_wordNext_30 (by decide) ?_
  refine a_icmp_eq 41 dX11_wordNext_32 (by decide) (fun c5 => ?_) (fun c5 => ?_)
  · replace h := ite_t c5 h
    refine a_iload dX11_wordNext_41 rfl ?_
    refine a_iload_n dX11_wordNext_43 rfl rfl ?_
    refine a_icmp_ne 51 dX11_wordNext_44 (by decide) (fun c6 => ?_) (fun c6 => ?_)
    · replace h := ite_f c6 h
      refine a_iconst (v := 0) dX11_wordNext_51 (by decide) ?_
      refine a_istore dX11_wordNext_52 (Nat.le_of_ble_eq_true rfl) (lv2 := [(5, .int 0), (0, .ref a0), (1, .int x1), (2, .int x2), (3, .int x3), (4, .int x4)]) rfl ?_
      refine a_iconst (v := 0) dX11_wordNext_54 (by decide) ?_
      refine a_istore dX11_wordNext_55 (Nat.le_of_ble_eq_true rfl) (lv2 := [(6, .int 0), (5, .int 0), (0, .ref a0), (1, .int x1), (2, .int x2), (3, .int x3), (4, .int x4)]) rfl ?_
      exact a_lv (lv2 := [(0, .ref a0), (1, .int x1), (2, .int x2), (3, .int x3), (4, .int x4), (5, .int 0), (6, .int 0)]) (fa_cons rfl (fa_cons rfl (fa_cons rfl (fa_cons rfl (fa_cons rfl (fa_cons rfl (fa_cons rfl fa_nil))))))) (hJ _ _ _ h)
    · replace h := ite_t c6 h
      refine a_iconst (v := 1) dX11_wordNext_47 (by decide) ?_
      refine a_goto 52 dX11_wordNext_48 (by decide) ?_
      refine a_istore dX11_wordNext_52 (Nat.le_of_ble_eq_true rfl) (lv2 := [(5, .int 1), (0, .ref a0), (1, .int x1), (2, .int x2), (3, .int x3), (4, .int x4)]) rfl ?_
      refine a_iconst (v := 0) dX11_wordNext_54 (by decide) ?_
      refine a_istore dX11_wordNext_55 (Nat.le_of_ble_eq_true rfl) (lv2 := [(6, .int 0), (5, .int 1), (0, .ref a0), (1, .int x1), (2, .int x2), (3, .int x3), (4, .int x4)]) rfl ?_
      exact a_lv (lv2 := [(0, .ref a0), (1, .int x1), (2, .int x2), (3, .int x3), (4, .int x4), (5, .int 1), (6, .int 0)]) (fa_cons rfl (fa_cons rfl (fa_cons rfl (fa_cons rfl (fa_cons rfl (fa_cons rfl (fa_cons rfl fa_nil))))))) (hJ _ _ _ h)
  · replace h := ite_f c5 h
    refine a_iinc (v := (x4 + 1)) dX11_wordNext_35 rfl (by first | rfl | decide) (Nat.le_of_ble_eq_true rfl) (lv2 := [(4, .int (x4 + 1)), (0, .ref a0), (1, .int x1), (2, .int x2), (3, .int x3)]) rfl ?_
    refine a_goto 21 dX11_wordNext_38 (by decide) ?_
    exact a_lv (lv2 := [(0, .ref a0), (1, .int x1), (2, .int x2), (3, .int x3), (4, .int (x4 + 1))]) (fa_cons rfl (fa_cons rfl (fa_cons rfl (fa_cons rfl (fa_cons rfl fa_nil))))) (hJ _ _ _ h)
set_option maxHeartbeats 4000000 in
set_option maxRecDepth 100000 in
noncomputable def T_X11_wordNext_57.{u} {α : Sort u} (J : Nat → List Value → Mem → α) (R : Int32 → Mem → α) (N : α) (n : Nat) (a0 : Nat) (x1 : Int32) (x2 : Int32) (x3 : Int32) (x4 : Int32) (x5 : Int32) (x6 : Int32) (M : Mem) : α := if x4 ≤ x6 then J 106 [.ref a0, .int x1, .int x2, .int x3, .int x4, .int x5] M else if x5 = 0 then J 106 [.ref a0, .int x1, .int x2, .int x3, .int x4, .int x5] M else gd (fO M a0 11) N (bnd (M.2.2.2.2 a0 26) N (fun r5 => gd (fA M r5 0 ((M.2.2.1 a0 29) + x6)) N (gd (4 ≤ n ∧ vp_in (x3 + x6) 74) N (if (M.2.2.1 r5 (((M.2.2.1 a0 29) + x6).toNatClampNeg)) = (tch 1 (x3 + x6).toNatClampNeg) then J 57 [.ref a0, .int x1, .int x2, .int x3, .int x4, .int 1, .int (x6 + 1)] M else J 57 [.ref a0, .int x1, .int x2, .int x3, .int x4, .int 0, .int (x6 + 1)] M))))
set_option maxHeartbeats 4000000 in
set_option maxRecDepth 100000 in
theorem n_X11_wordNext_57.{u, v} {α : Sort u} {β : Sort v} (h : α → β) (J : Nat → List Value → Mem → α) (R : Int32 → Mem → α) (N : α) (n : Nat) (a0 : Nat) (x1 : Int32) (x2 : Int32) (x3 : Int32) (x4 : Int32) (x5 : Int32) (x6 : Int32) (M : Mem) : h (T_X11_wordNext_57 J R N n a0 x1 x2 x3 x4 x5 x6 M) = T_X11_wordNext_57 (fun c l M => h (J c l M)) (fun v M => h (R v M)) (h N) n a0 x1 x2 x3 x4 x5 x6 M := by
  simp only [T_X11_wordNext_57, nat_ite h, nat_gd h, nat_bnd h, nat_bnd2 h]
set_option maxHeartbeats 4000000 in
set_option maxRecDepth 100000 in
theorem w_X11_wordNext_57 {X : Nat × (Nat → Int32)} {al : Bool} {n : Nat} {Q : Option Value → Mem → Prop} {J : Nat → List Value → Mem → Prop} (hJ : ∀ c l M, J c l M → PW_X11_wordNext X al n Q c l M) {R : Int32 → Mem → Prop} (hR : ∀ v M, R v M → Q (some (.int v)) M) {a0 : Nat} {x1 : Int32} {x2 : Int32} {x3 : Int32} {x4 : Int32} {x5 : Int32} {x6 : Int32} {M : Mem} (h : T_X11_wordNext_57 J R False n a0 x1 x2 x3 x4 x5 x6 M) : AW X (RX11, cX11_wordNext, 7, (some .int), false, al, n) 0 0 57 [(0, .ref a0), (1, .int x1), (2, .int x2), (3, .int x3), (4, .int x4), (5, .int x5), (6, .int x6)] [] M Q := by
  unfold T_X11_wordNext_57 at h
  refine a_iload dX11_wordNext_57 rfl ?_
  refine a_iload dX11_wordNext_59 rfl ?_
  refine a_icmp_ge 106 dX11_wordNext_61 (by decide) (fun c1 => ?_) (fun c1 => ?_)
  · replace h := ite_t c1 h
    exact a_lv (lv2 := [(0, .ref a0), (1, .int x1), (2, .int x2), (3, .int x3), (4, .int x4), (5, .int x5)]) (fa_cons rfl (fa_cons rfl (fa_cons rfl (fa_cons rfl (fa_cons rfl (fa_cons rfl fa_nil)))))) (hJ _ _ _ h)
  · replace h := ite_f c1 h
    refine a_iload dX11_wordNext_64 rfl ?_
    refine a_if_eq 106 dX11_wordNext_66 (by decide) (fun c2 => ?_) (fun c2 => ?_)
    · replace h := ite_t c2 h
      exact a_lv (lv2 := [(0, .ref a0), (1, .int x1), (2, .int x2), (3, .int x3), (4, .int x4), (5, .int x5)]) (fa_cons rfl (fa_cons rfl (fa_cons rfl (fa_cons rfl (fa_cons rfl (fa_cons rfl fa_nil)))))) (hJ _ _ _ h)
    · replace h := ite_f c2 h
      refine a_aload_n dX11_wordNext_69 rfl rfl ?_
      obtain ⟨⟨ga3, gs4⟩, h⟩ := gd_t h
      obtain ⟨r5, e6, h⟩ := bnd_t h
      refine a_get (v := .ref r5) dX11_wordNext_70 fl_11_71 ga3 gs4 (gvR e6 rfl) ?_
      refine a_aload_n dX11_wordNext_73 rfl rfl ?_
      refine a_get (v := .int (M.2.2.1 a0 29)) dX11_wordNext_74 fl_11_157 ga3 gs4 rfl ?_
      refine a_iload dX11_wordNext_77 rfl ?_
      refine a_iadd dX11_wordNext_79 ?_
      obtain ⟨⟨ga7, gn8, gs9, gi10⟩, h⟩ := gd_t h
      refine a_baload dX11_wordNext_80 (by decide) ga7 gs9 gi10 ?_
      refine a_ldcB dX11_wordNext_81 rfl ?_
      refine a_iload_n dX11_wordNext_83 rfl rfl ?_
      refine a_iload dX11_wordNext_84 rfl ?_
      refine a_iadd dX11_wordNext_86 ?_
      obtain ⟨⟨gf11, gi14⟩, h⟩ := gd_t h
      obtain ⟨n12, en13⟩ : ∃ k, n = k + 4 := ⟨n - 4, by omega⟩
      refine e_callT (As := [.int (x3 + x6)]) (st := [.int (M.2.2.1 r5 (((M.2.2.1 a0 29) + x6).toNatClampNeg))]) (i := 1) dX11_wordNext_87 mw_J0_charAt_5068e ml_X11_194 im_J0_charAt_5068e se_J0_charAt_5068e (by decide) rfl (Nat.le_of_ble_eq_true rfl) en13 (k_charAt1 gi14) ?_
      refine a_icmp_ne 97 dX11_wordNext_90 (by decide) (fun c15 => ?_) (fun c15 => ?_)
      · replace h := ite_f c15 h
        refine a_iconst (v := 0) dX11_wordNext_97 (by decide) ?_
        refine a_istore dX11_wordNext_98 (Nat.le_of_ble_eq_true rfl) (lv2 := [(5, .int 0), (0, .ref a0), (1, .int x1), (2, .int x2), (3, .int x3), (4, .int x4), (6, .int x6)]) rfl ?_
        refine a_iinc (v := (x6 + 1)) dX11_wordNext_100 rfl (by first | rfl | decide) (Nat.le_of_ble_eq_true rfl) (lv2 := [(6, .int (x6 + 1)), (5, .int 0), (0, .ref a0), (1, .int x1), (2, .int x2), (3, .int x3), (4, .int x4)]) rfl ?_
        refine a_goto 57 dX11_wordNext_103 (by decide) ?_
        exact a_lv (lv2 := [(0, .ref a0), (1, .int x1), (2, .int x2), (3, .int x3), (4, .int x4), (5, .int 0), (6, .int (x6 + 1))]) (fa_cons rfl (fa_cons rfl (fa_cons rfl (fa_cons rfl (fa_cons rfl (fa_cons rfl (fa_cons rfl fa_nil))))))) (hJ _ _ _ h)
      · replace h := ite_t c15 h
        refine a_iconst (v := 1) dX11_wordNext_93 (by decide) ?_
        refine a_goto 98 dX11_wordNext_94 (by decide) ?_
        refine a_istore dX11_wordNext_98 (Nat.le_of_ble_eq_true rfl) (lv2 := [(5, .int 1), (0, .ref a0), (1, .int x1), (2, .int x2), (3, .int x3), (4, .int x4), (6, .int x6)]) rfl ?_
        refine a_iinc (v := (x6 + 1)) dX11_wordNext_100 rfl (by first | rfl | decide) (Nat.le_of_ble_eq_true rfl) (lv2 := [(6, .int (x6 + 1)), (5, .int 1), (0, .ref a0), (1, .int x1), (2, .int x2), (3, .int x3), (4, .int x4)]) rfl ?_
        refine a_goto 57 dX11_wordNext_103 (by decide) ?_
        exact a_lv (lv2 := [(0, .ref a0), (1, .int x1), (2, .int x2), (3, .int x3), (4, .int x4), (5, .int 1), (6, .int (x6 + 1))]) (fa_cons rfl (fa_cons rfl (fa_cons rfl (fa_cons rfl (fa_cons rfl (fa_cons rfl (fa_cons rfl fa_nil))))))) (hJ _ _ _ h)
set_option maxHeartbeats 4000000 in
set_option maxRecDepth 100000 in
noncomputable def T_X11_wordNext_106.{u} {α : Sort u} (J : Nat → List Value → Mem → α) (R : Int32 → Mem → α) (N : α) (n : Nat) (a0 : Nat) (x1 : Int32) (x2 : Int32) (x3 : Int32) (x4 : Int32) (x5 : Int32) (M : Mem) : α := if x5 = 0 then J 9 [.ref a0, .int x1, .int (x2 + 1), .int (x3 + (x4 + 1))] M else R x2 M
set_option maxHeartbeats 4000000 in
set_option maxRecDepth 100000 in
theorem n_X11_wordNext_106.{u, v} {α : Sort u} {β : Sort v} (h : α → β) (J : Nat → List Value → Mem → α) (R : Int32 → Mem → α) (N : α) (n : Nat) (a0 : Nat) (x1 : Int32) (x2 : Int32) (x3 : Int32) (x4 : Int32) (x5 : Int32) (M : Mem) : h (T_X11_wordNext_106 J R N n a0 x1 x2 x3 x4 x5 M) = T_X11_wordNext_106 (fun c l M => h (J c l M)) (fun v M => h (R v M)) (h N) n a0 x1 x2 x3 x4 x5 M := by
  simp only [T_X11_wordNext_106, nat_ite h, nat_gd h, nat_bnd h, nat_bnd2 h]
set_option maxHeartbeats 4000000 in
set_option maxRecDepth 100000 in
theorem w_X11_wordNext_106 {X : Nat × (Nat → Int32)} {al : Bool} {n : Nat} {Q : Option Value → Mem → Prop} {J : Nat → List Value → Mem → Prop} (hJ : ∀ c l M, J c l M → PW_X11_wordNext X al n Q c l M) {R : Int32 → Mem → Prop} (hR : ∀ v M, R v M → Q (some (.int v)) M) {a0 : Nat} {x1 : Int32} {x2 : Int32} {x3 : Int32} {x4 : Int32} {x5 : Int32} {M : Mem} (h : T_X11_wordNext_106 J R False n a0 x1 x2 x3 x4 x5 M) : AW X (RX11, cX11_wordNext, 7, (some .int), false, al, n) 0 0 106 [(0, .ref a0), (1, .int x1), (2, .int x2), (3, .int x3), (4, .int x4), (5, .int x5)] [] M Q := by
  unfold T_X11_wordNext_106 at h
  refine a_iload dX11_wordNext_106 rfl ?_
  refine a_if_eq 113 dX11_wordNext_108 (by decide) (fun c1 => ?_) (fun c1 => ?_)
  · replace h := ite_t c1 h
    refine a_iload_n dX11_wordNext_113 rfl rfl ?_
    refine a_iload dX11_wordNext_114 rfl ?_
    refine a_iconst (v := 1) dX11_wordNext_116 (by decide) ?_
    refine a_iadd dX11_wordNext_117 ?_
    refine a_iadd dX11_wordNext_118 ?_
    refine a_istore_n dX11_wordNext_119 rfl (Nat.le_of_ble_eq_true rfl) (lv2 := [(3, .int (x3 + (x4 + 1))), (0, .ref a0), (1, .int x1), (2, .int x2), (4, .int x4), (5, .int x5)]) rfl ?_
    refine a_iinc (v := (x2 + 1)) dX11_wordNext_120 rfl (by first | rfl | decide) (Nat.le_of_ble_eq_true rfl) (lv2 := [(2, .int (x2 + 1)), (3, .int (x3 + (x4 + 1))), (0, .ref a0), (1, .int x1), (4, .int x4), (5, .int x5)]) rfl ?_
    refine a_goto 9 dX11_wordNext_123 (by decide) ?_
    exact a_lv (lv2 := [(0, .ref a0), (1, .int x1), (2, .int (x2 + 1)), (3, .int (x3 + (x4 + 1)))]) (fa_cons rfl (fa_cons rfl (fa_cons rfl (fa_cons rfl fa_nil)))) (hJ _ _ _ h)
  · replace h := ite_f c1 h
    refine a_iload_n dX11_wordNext_111 rfl rfl ?_
    exact a_iret dX11_wordNext_112 rfl (hR _ _ h)
set_option maxHeartbeats 4000000 in
set_option maxRecDepth 100000 in
noncomputable def st_X11_wordNext (n : Nat) (s : Sg) : Option (Sg ⊕ (Int32 × Mem)) := if s.1 = 0 then vR s.2.1 none (fun a0 t => vE t none (T_X11_wordNext_0 (fun c l M => some (.inl (c, l, M))) (fun v M => some (.inr (v, M))) none n a0 s.2.2)) else if s.1 = 9 then vR s.2.1 none (fun a0 t => vI t none (fun x1 t => vI t none (fun x2 t => vI t none (fun x3 t => vE t none (T_X11_wordNext_9 (fun c l M => some (.inl (c, l, M))) (fun v M => some (.inr (v, M))) none n a0 x1 x2 x3 s.2.2))))) else if s.1 = 21 then vR s.2.1 none (fun a0 t => vI t none (fun x1 t => vI t none (fun x2 t => vI t none (fun x3 t => vI t none (fun x4 t => vE t none (T_X11_wordNext_21 (fun c l M => some (.inl (c, l, M))) (fun v M => some (.inr (v, M))) none n a0 x1 x2 x3 x4 s.2.2)))))) else if s.1 = 57 then vR s.2.1 none (fun a0 t => vI t none (fun x1 t => vI t none (fun x2 t => vI t none (fun x3 t => vI t none (fun x4 t => vI t none (fun x5 t => vI t none (fun x6 t => vE t none (T_X11_wordNext_57 (fun c l M => some (.inl (c, l, M))) (fun v M => some (.inr (v, M))) none n a0 x1 x2 x3 x4 x5 x6 s.2.2)))))))) else if s.1 = 106 then vR s.2.1 none (fun a0 t => vI t none (fun x1 t => vI t none (fun x2 t => vI t none (fun x3 t => vI t none (fun x4 t => vI t none (fun x5 t => vE t none (T_X11_wordNext_106 (fun c l M => some (.inl (c, l, M))) (fun v M => some (.inr (v, M))) none n a0 x1 x2 x3 x4 x5 s.2.2))))))) else none
noncomputable abbrev g_X11_wordNext_0 (n : Nat) (a0 : Nat) (M : Mem) : Option (Int32 × Mem) := lp (st_X11_wordNext n) (0, [.ref a0], M)
set_option maxHeartbeats 4000000 in
set_option maxRecDepth 100000 in
theorem ge_X11_wordNext_0 (n : Nat) (a0 : Nat) (M : Mem) : g_X11_wordNext_0 n a0 M = T_X11_wordNext_0 (fun c l M => lp (st_X11_wordNext n) (c, l, M)) (fun v M => some (v, M)) none n a0 M := (lp_eq _ _).trans (n_X11_wordNext_0 (lpK (st_X11_wordNext n)) (fun c l M => some (.inl (c, l, M))) (fun v M => some (.inr (v, M))) none n a0 M)
noncomputable abbrev g_X11_wordNext_9 (n : Nat) (a0 : Nat) (x1 : Int32) (x2 : Int32) (x3 : Int32) (M : Mem) : Option (Int32 × Mem) := lp (st_X11_wordNext n) (9, [.ref a0, .int x1, .int x2, .int x3], M)
set_option maxHeartbeats 4000000 in
set_option maxRecDepth 100000 in
theorem ge_X11_wordNext_9 (n : Nat) (a0 : Nat) (x1 : Int32) (x2 : Int32) (x3 : Int32) (M : Mem) : g_X11_wordNext_9 n a0 x1 x2 x3 M = T_X11_wordNext_9 (fun c l M => lp (st_X11_wordNext n) (c, l, M)) (fun v M => some (v, M)) none n a0 x1 x2 x3 M := (lp_eq _ _).trans (n_X11_wordNext_9 (lpK (st_X11_wordNext n)) (fun c l M => some (.inl (c, l, M))) (fun v M => some (.inr (v, M))) none n a0 x1 x2 x3 M)
noncomputable abbrev g_X11_wordNext_21 (n : Nat) (a0 : Nat) (x1 : Int32) (x2 : Int32) (x3 : Int32) (x4 : Int32) (M : Mem) : Option (Int32 × Mem) := lp (st_X11_wordNext n) (21, [.ref a0, .int x1, .int x2, .int x3, .int x4], M)
set_option maxHeartbeats 4000000 in
set_option maxRecDepth 100000 in
theorem ge_X11_wordNext_21 (n : Nat) (a0 : Nat) (x1 : Int32) (x2 : Int32) (x3 : Int32) (x4 : Int32) (M : Mem) : g_X11_wordNext_21 n a0 x1 x2 x3 x4 M = T_X11_wordNext_21 (fun c l M => lp (st_X11_wordNext n) (c, l, M)) (fun v M => some (v, M)) none n a0 x1 x2 x3 x4 M := (lp_eq _ _).trans (n_X11_wordNext_21 (lpK (st_X11_wordNext n)) (fun c l M => some (.inl (c, l, M))) (fun v M => some (.inr (v, M))) none n a0 x1 x2 x3 x4 M)
noncomputable abbrev g_X11_wordNext_57 (n : Nat) (a0 : Nat) (x1 : Int32) (x2 : Int32) (x3 : Int32) (x4 : Int32) (x5 : Int32) (x6 : Int32) (M : Mem) : Option (Int32 × Mem) := lp (st_X11_wordNext n) (57, [.ref a0, .int x1, .int x2, .int x3, .int x4, .int x5, .int x6], M)
set_option maxHeartbeats 4000000 in
set_option maxRecDepth 100000 in
theorem ge_X11_wordNext_57 (n : Nat) (a0 : Nat) (x1 : Int32) (x2 : Int32) (x3 : Int32) (x4 : Int32) (x5 : Int32) (x6 : Int32) (M : Mem) : g_X11_wordNext_57 n a0 x1 x2 x3 x4 x5 x6 M = T_X11_wordNext_57 (fun c l M => lp (st_X11_wordNext n) (c, l, M)) (fun v M => some (v, M)) none n a0 x1 x2 x3 x4 x5 x6 M := (lp_eq _ _).trans (n_X11_wordNext_57 (lpK (st_X11_wordNext n)) (fun c l M => some (.inl (c, l, M))) (fun v M => some (.inr (v, M))) none n a0 x1 x2 x3 x4 x5 x6 M)
noncomputable abbrev g_X11_wordNext_106 (n : Nat) (a0 : Nat) (x1 : Int32) (x2 : Int32) (x3 : Int32) (x4 : Int32) (x5 : Int32) (M : Mem) : Option (Int32 × Mem) := lp (st_X11_wordNext n) (106, [.ref a0, .int x1, .int x2, .int x3, .int x4, .int x5], M)
set_option maxHeartbeats 4000000 in
set_option maxRecDepth 100000 in
theorem ge_X11_wordNext_106 (n : Nat) (a0 : Nat) (x1 : Int32) (x2 : Int32) (x3 : Int32) (x4 : Int32) (x5 : Int32) (M : Mem) : g_X11_wordNext_106 n a0 x1 x2 x3 x4 x5 M = T_X11_wordNext_106 (fun c l M => lp (st_X11_wordNext n) (c, l, M)) (fun v M => some (v, M)) none n a0 x1 x2 x3 x4 x5 M := (lp_eq _ _).trans (n_X11_wordNext_106 (lpK (st_X11_wordNext n)) (fun c l M => some (.inl (c, l, M))) (fun v M => some (.inr (v, M))) none n a0 x1 x2 x3 x4 x5 M)
noncomputable def b_X11_wordNext (n : Nat) (a0 : Nat) (M : Mem) : Option (Int32 × Mem) := g_X11_wordNext_0 n a0 M
set_option maxHeartbeats 4000000 in
set_option maxRecDepth 100000 in
theorem sb_X11_wordNext {X : Nat × (Nat → Int32)} {al : Bool} {n : Nat} {a0 : Nat} {M : Mem} {v : Int32} {M1 : Mem} (h : b_X11_wordNext n a0 M = some (v, M1)) : AE yX11_wordNext cX11_wordNext 7 (some .int) al n X [.ref a0] M (some (.int v)) M1 := by
  refine AM.of false (by decide +kernel) (by intro h; cases h) (Nat.le_of_ble_eq_true rfl) ?_
  refine lp_snd (P := fun s r => PW_X11_wordNext X al n (fun v M2 => v = (some (.int r.1)) ∧ M2 = r.2) s.1 s.2.1 s.2.2) ?_ h
  clear h
  rintro ⟨c, l, M⟩ r h
  unfold st_X11_wordNext at h
  rcases ite_p h with ⟨e, h⟩ | ⟨e, h⟩
  · replace e : c = 0 := e
    subst e
    obtain ⟨a0, tt0, e, h⟩ := vR_p id h
    replace e : l = _ := e
    subst e
    obtain ⟨e, h⟩ := vE_p id h
    replace e : tt0 = [] := e
    subst e
    exact w_X11_wordNext_0 (J := fun c l M => PW_X11_wordNext X al n (fun v M2 => v = (some (.int r.1)) ∧ M2 = r.2) c l M) (R := fun v M => (v, M) = r) (fun _ _ _ h => h) (fun v M h => by cases h; exact ⟨rfl, rfl⟩) ((n_X11_wordNext_0 (lpP (fun (s : Sg) (r : Int32 × Mem) => PW_X11_wordNext X al n (fun v M2 => v = (some (.int r.1)) ∧ M2 = r.2) s.1 s.2.1 s.2.2) r) (fun c l M => some (.inl (c, l, M))) (fun v M => some (.inr (v, M))) none n a0 M).mp h)
  rcases ite_p h with ⟨e, h⟩ | ⟨e, h⟩
  · replace e : c = 9 := e
    subst e
    obtain ⟨a0, tt0, e, h⟩ := vR_p id h
    replace e : l = _ := e
    subst e
    obtain ⟨x1, tt1, e, h⟩ := vI_p id h
    replace e : tt0 = _ := e
    subst e
    obtain ⟨x2, tt2, e, h⟩ := vI_p id h
    replace e : tt1 = _ := e
    subst e
    obtain ⟨x3, tt3, e, h⟩ := vI_p id h
    replace e : tt2 = _ := e
    subst e
    obtain ⟨e, h⟩ := vE_p id h
    replace e : tt3 = [] := e
    subst e
    exact w_X11_wordNext_9 (J := fun c l M => PW_X11_wordNext X al n (fun v M2 => v = (some (.int r.1)) ∧ M2 = r.2) c l M) (R := fun v M => (v, M) = r) (fun _ _ _ h => h) (fun v M h => by cases h; exact ⟨rfl, rfl⟩) ((n_X11_wordNext_9 (lpP (fun (s : Sg) (r : Int32 × Mem) => PW_X11_wordNext X al n (fun v M2 => v = (some (.int r.1)) ∧ M2 = r.2) s.1 s.2.1 s.2.2) r) (fun c l M => some (.inl (c, l, M))) (fun v M => some (.inr (v, M))) none n a0 x1 x2 x3 M).mp h)
  rcases ite_p h with ⟨e, h⟩ | ⟨e, h⟩
  · replace e : c = 21 := e
    subst e
    obtain ⟨a0, tt0, e, h⟩ := vR_p id h
    replace e : l = _ := e
    subst e
    obtain ⟨x1, tt1, e, h⟩ := vI_p id h
    replace e : tt0 = _ := e
    subst e
    obtain ⟨x2, tt2, e, h⟩ := vI_p id h
    replace e : tt1 = _ := e
    subst e
    obtain ⟨x3, tt3, e, h⟩ := vI_p id h
    replace e : tt2 = _ := e
    subst e
    obtain ⟨x4, tt4, e, h⟩ := vI_p id h
    replace e : tt3 = _ := e
    subst e
    obtain ⟨e, h⟩ := vE_p id h
    replace e : tt4 = [] := e
    subst e
    exact w_X11_wordNext_21 (J := fun c l M => PW_X11_wordNext X al n (fun v M2 => v = (some (.int r.1)) ∧ M2 = r.2) c l M) (R := fun v M => (v, M) = r) (fun _ _ _ h => h) (fun v M h => by cases h; exact ⟨rfl, rfl⟩) ((n_X11_wordNext_21 (lpP (fun (s : Sg) (r : Int32 × Mem) => PW_X11_wordNext X al n (fun v M2 => v = (some (.int r.1)) ∧ M2 = r.2) s.1 s.2.1 s.2.2) r) (fun c l M => some (.inl (c, l, M))) (fun v M => some (.inr (v, M))) none n a0 x1 x2 x3 x4 M).mp h)
  rcases ite_p h with ⟨e, h⟩ | ⟨e, h⟩
  · replace e : c = 57 := e
    subst e
    obtain ⟨a0, tt0, e, h⟩ := vR_p id h
    replace e : l = _ := e
    subst e
    obtain ⟨x1, tt1, e, h⟩ := vI_p id h
    replace e : tt0 = _ := e
    subst e
    obtain ⟨x2, tt2, e, h⟩ := vI_p id h
    replace e : tt1 = _ := e
    subst e
    obtain ⟨x3, tt3, e, h⟩ := vI_p id h
    replace e : tt2 = _ := e
    subst e
    obtain ⟨x4, tt4, e, h⟩ := vI_p id h
    replace e : tt3 = _ := e
    subst e
    obtain ⟨x5, tt5, e, h⟩ := vI_p id h
    replace e : tt4 = _ := e
    subst e
    obtain ⟨x6, tt6, e, h⟩ := vI_p id h
    replace e : tt5 = _ := e
    subst e
    obtain ⟨e, h⟩ := vE_p id h
    replace e : tt6 = [] := e
    subst e
    exact w_X11_wordNext_57 (J := fun c l M => PW_X11_wordNext X al n (fun v M2 => v = (some (.int r.1)) ∧ M2 = r.2) c l M) (R := fun v M => (v, M) = r) (fun _ _ _ h => h) (fun v M h => by cases h; exact ⟨rfl, rfl⟩) ((n_X11_wordNext_57 (lpP (fun (s : Sg) (r : Int32 × Mem) => PW_X11_wordNext X al n (fun v M2 => v = (some (.int r.1)) ∧ M2 = r.2) s.1 s.2.1 s.2.2) r) (fun c l M => some (.inl (c, l, M))) (fun v M => some (.inr (v, M))) none n a0 x1 x2 x3 x4 x5 x6 M).mp h)
  rcases ite_p h with ⟨e, h⟩ | ⟨e, h⟩
  · replace e : c = 106 := e
    subst e
    obtain ⟨a0, tt0, e, h⟩ := vR_p id h
    replace e : l = _ := e
    subst e
    obtain ⟨x1, tt1, e, h⟩ := vI_p id h
    replace e : tt0 = _ := e
    subst e
    obtain ⟨x2, tt2, e, h⟩ := vI_p id h
    replace e : tt1 = _ := e
    subst e
    obtain ⟨x3, tt3, e, h⟩ := vI_p id h
    replace e : tt2 = _ := e
    subst e
    obtain ⟨x4, tt4, e, h⟩ := vI_p id h
    replace e : tt3 = _ := e
    subst e
    obtain ⟨x5, tt5, e, h⟩ := vI_p id h
    replace e : tt4 = _ := e
    subst e
    obtain ⟨e, h⟩ := vE_p id h
    replace e : tt5 = [] := e
    subst e
    exact w_X11_wordNext_106 (J := fun c l M => PW_X11_wordNext X al n (fun v M2 => v = (some (.int r.1)) ∧ M2 = r.2) c l M) (R := fun v M => (v, M) = r) (fun _ _ _ h => h) (fun v M h => by cases h; exact ⟨rfl, rfl⟩) ((n_X11_wordNext_106 (lpP (fun (s : Sg) (r : Int32 × Mem) => PW_X11_wordNext X al n (fun v M2 => v = (some (.int r.1)) ∧ M2 = r.2) s.1 s.2.1 s.2.2) r) (fun c l M => some (.inl (c, l, M))) (fun v M => some (.inr (v, M))) none n a0 x1 x2 x3 x4 x5 M).mp h)
  · exact h.elim

noncomputable abbrev f_X11_wordNext := b_X11_wordNext
theorem s_X11_wordNext {X : Nat × (Nat → Int32)} {al : Bool} {n : Nat} {a0 : Nat} {M : Mem} {v : Int32} {M1 : Mem} (h : f_X11_wordNext n a0 M = some (v, M1)) : AE yX11_wordNext cX11_wordNext 7 (some .int) al n X [.ref a0] M (some (.int v)) M1 := sb_X11_wordNext h
set_option maxHeartbeats 4000000 in
set_option maxRecDepth 100000 in
noncomputable def T_X11_nameHere_0.{u} {α : Sort u} (R : Int32 → Mem → α) (N : α) (n : Nat) (a0 : Nat) (M : Mem) : α := gd (fO M a0 11) N (bnd2 (cal n (fun n => f_X11_wordNext n a0 M)) N (fun v3 M4 => gd (fO M4 a0 11) N (bnd2 (cal n (fun n => f_X11_lettersHere n a0 M4)) N (fun v10 M11 => bnd2 (cal n (fun n => f_X11_isIn n (Int32.toInt64 v10) 1 (4) M11)) N (fun v15 M16 => if v15 = 0 then R 0 M16 else if v3 = (-1) then R v10 M16 else if 8 ≤ v3 then R 0 M16 else R v10 M16)))))
set_option maxHeartbeats 4000000 in
set_option maxRecDepth 100000 in
theorem n_X11_nameHere_0.{u, v} {α : Sort u} {β : Sort v} (h : α → β) (R : Int32 → Mem → α) (N : α) (n : Nat) (a0 : Nat) (M : Mem) : h (T_X11_nameHere_0 R N n a0 M) = T_X11_nameHere_0 (fun v M => h (R v M)) (h N) n a0 M := by
  simp only [T_X11_nameHere_0, nat_ite h, nat_gd h, nat_bnd h, nat_bnd2 h]
set_option maxHeartbeats 4000000 in
set_option maxRecDepth 100000 in
theorem w_X11_nameHere_0 {X : Nat × (Nat → Int32)} {al : Bool} {n : Nat} {Q : Option Value → Mem → Prop} {R : Int32 → Mem → Prop} (hR : ∀ v M, R v M → Q (some (.int v)) M) {a0 : Nat} {M : Mem} (h : T_X11_nameHere_0 R False n a0 M) : AW X (RX11, cX11_nameHere, 3, (some .int), false, al, n) 0 0 0 [(0, .ref a0)] [] M Q := by
  unfold T_X11_nameHere_0 at h
  refine a_aload_n dX11_nameHere_0 rfl rfl ?_
  obtain ⟨⟨ga1, gs2⟩, h⟩ := gd_t h
  obtain ⟨v3, M4, e5, h⟩ := bnd2_t h
  obtain ⟨n6, en7, e5⟩ := cal_t e5
  refine e_callV (As := []) (st := []) (a := a0) (ci := 11) false dX11_nameHere_1 mw_X11_wordNext (Or.inl ⟨rfl, ml_X11_204⟩) im_X11_wordNext se_X11_wordNext (by decide) ga1 gs2 rfl (Nat.le_of_ble_eq_true rfl) en7 (s_X11_wordNext e5) ?_
  refine a_istore_n dX11_nameHere_4 rfl (Nat.le_of_ble_eq_true rfl) (lv2 := [(1, .int v3), (0, .ref a0)]) rfl ?_
  refine a_aload_n dX11_nameHere_5 rfl rfl ?_
  obtain ⟨⟨ga8, gs9⟩, h⟩ := gd_t h
  obtain ⟨v10, M11, e12, h⟩ := bnd2_t h
  obtain ⟨n13, en14, e12⟩ := cal_t e12
  refine e_callV (As := []) (st := []) (a := a0) (ci := 11) false dX11_nameHere_6 mw_X11_lettersHere (Or.inl ⟨rfl, ml_X11_184⟩) im_X11_lettersHere se_X11_lettersHere (by decide) ga8 gs9 rfl (Nat.le_of_ble_eq_true rfl) en14 (s_X11_lettersHere e12) ?_
  refine a_istore_n dX11_nameHere_9 rfl (Nat.le_of_ble_eq_true rfl) (lv2 := [(2, .int v10), (1, .int v3), (0, .ref a0)]) rfl ?_
  refine a_iload_n dX11_nameHere_10 rfl rfl ?_
  refine a_i2l dX11_nameHere_11 ?_
  refine a_lconst (v := 1) dX11_nameHere_12 (by decide) ?_
  refine a_ldc2 dX11_nameHere_13 co_X11_219 ?_
  obtain ⟨v15, M16, e17, h⟩ := bnd2_t h
  obtain ⟨n18, en19, e17⟩ := cal_t e17
  refine e_callS (As := [.long (Int32.toInt64 v10), .long 1, .long (4)]) (st := []) false dX11_nameHere_16 mw_X11_isIn (Or.inl ⟨rfl, ml_X11_180⟩) sm_X11_isIn rfl (Nat.le_of_ble_eq_true rfl) en19 (s_X11_isIn e17) ?_
  refine a_if_eq 37 dX11_nameHere_19 (by decide) (fun c20 => ?_) (fun c20 => ?_)
  · replace h := ite_t c20 h
    refine a_iconst (v := 0) dX11_nameHere_37 (by decide) ?_
    exact a_iret dX11_nameHere_38 rfl (hR _ _ h)
  · replace h := ite_f c20 h
    refine a_iload_n dX11_nameHere_22 rfl rfl ?_
    refine a_iconst (v := -1) dX11_nameHere_23 (by decide) ?_
    refine a_icmp_eq 33 dX11_nameHere_24 (by decide) (fun c21 => ?_) (fun c21 => ?_)
    · replace h := ite_t c21 h
      refine a_iload_n dX11_nameHere_33 rfl rfl ?_
      refine a_goto 38 dX11_nameHere_34 (by decide) ?_
      exact a_iret dX11_nameHere_38 rfl (hR _ _ h)
    · replace h := ite_f c21 h
      refine a_iload_n dX11_nameHere_27 rfl rfl ?_
      refine a_bipush (v := 8) dX11_nameHere_28 (by decide) ?_
      refine a_icmp_ge 37 dX11_nameHere_30 (by decide) (fun c22 => ?_) (fun c22 => ?_)
      · replace h := ite_t c22 h
        refine a_iconst (v := 0) dX11_nameHere_37 (by decide) ?_
        exact a_iret dX11_nameHere_38 rfl (hR _ _ h)
      · replace h := ite_f c22 h
        refine a_iload_n dX11_nameHere_33 rfl rfl ?_
        refine a_goto 38 dX11_nameHere_34 (by decide) ?_
        exact a_iret dX11_nameHere_38 rfl (hR _ _ h)
noncomputable def b_X11_nameHere (n : Nat) (a0 : Nat) (M : Mem) : Option (Int32 × Mem) := T_X11_nameHere_0 (fun v M => some (v, M)) none n a0 M
set_option maxHeartbeats 4000000 in
set_option maxRecDepth 100000 in
theorem sb_X11_nameHere {X : Nat × (Nat → Int32)} {al : Bool} {n : Nat} {a0 : Nat} {M : Mem} {v : Int32} {M1 : Mem} (h : b_X11_nameHere n a0 M = some (v, M1)) : AE yX11_nameHere cX11_nameHere 3 (some .int) al n X [.ref a0] M (some (.int v)) M1 := by
  refine AM.of false (by decide +kernel) (by intro h; cases h) (Nat.le_of_ble_eq_true rfl) ?_
  have h2 : T_X11_nameHere_0 (fun v2 M2 => some (v2, M2) = some (v, M1)) (none = some (v, M1)) n a0 M := (n_X11_nameHere_0 (fun o => o = some (v, M1)) (fun v M => some (v, M)) none n a0 M).mp h
  have h3 : ((none : Option (Int32 × Mem)) = some (v, M1)) = False := eq_false (by intro q; cases q)
  rw [h3] at h2
  exact w_X11_nameHere_0 (fun v2 M2 h => by cases h; exact ⟨rfl, rfl⟩) h2

noncomputable abbrev f_X11_nameHere := b_X11_nameHere
theorem s_X11_nameHere {X : Nat × (Nat → Int32)} {al : Bool} {n : Nat} {a0 : Nat} {M : Mem} {v : Int32} {M1 : Mem} (h : f_X11_nameHere n a0 M = some (v, M1)) : AE yX11_nameHere cX11_nameHere 3 (some .int) al n X [.ref a0] M (some (.int v)) M1 := sb_X11_nameHere h
