/-! METHODS AS FUNCTIONS, written by wip/gen/shallow.py -/
def ix_X9_redexesOf (c : Nat) : List Nat := if c = 0 then [0, 1] else if c = 4 then [0, 1, 2, 3] else []
def PW_X9_redexesOf (X : Nat × (Nat → Int32)) (al : Bool) (n : Nat) (Q : Option Value → Mem → Prop) (c : Nat) (l : List Value) (M : Mem) : Prop := AW X (RX9, cX9_redexesOf, 5, (some .int), false, al, n) 0 0 c (List.zip (ix_X9_redexesOf c) l) (l.drop (ix_X9_redexesOf c).length) M Q
set_option maxHeartbeats 4000000 in
set_option maxRecDepth 100000 in
noncomputable def T_X9_redexesOf_0.{u} {α : Sort u} (J : Nat → List Value → Mem → α) (R : Int32 → Mem → α) (N : α) (n : Nat) (a0 : Nat) (x1 : Int32) (M : Mem) : α := J 4 [.ref a0, .int x1, .int 0, .int 0] M
set_option maxHeartbeats 4000000 in
set_option maxRecDepth 100000 in
theorem n_X9_redexesOf_0.{u, v} {α : Sort u} {β : Sort v} (h : α → β) (J : Nat → List Value → Mem → α) (R : Int32 → Mem → α) (N : α) (n : Nat) (a0 : Nat) (x1 : Int32) (M : Mem) : h (T_X9_redexesOf_0 J R N n a0 x1 M) = T_X9_redexesOf_0 (fun c l M => h (J c l M)) (fun v M => h (R v M)) (h N) n a0 x1 M := by
  simp only [T_X9_redexesOf_0, nat_ite h, nat_gd h, nat_bnd h, nat_bnd2 h]
set_option maxHeartbeats 4000000 in
set_option maxRecDepth 100000 in
theorem w_X9_redexesOf_0 {X : Nat × (Nat → Int32)} {al : Bool} {n : Nat} {Q : Option Value → Mem → Prop} {J : Nat → List Value → Mem → Prop} (hJ : ∀ c l M, J c l M → PW_X9_redexesOf X al n Q c l M) {R : Int32 → Mem → Prop} (hR : ∀ v M, R v M → Q (some (.int v)) M) {a0 : Nat} {x1 : Int32} {M : Mem} (h : T_X9_redexesOf_0 J R False n a0 x1 M) : AW X (RX9, cX9_redexesOf, 5, (some .int), false, al, n) 0 0 0 [(0, .ref a0), (1, .int x1)] [] M Q := by
  unfold T_X9_redexesOf_0 at h
  refine a_iconst (v := 0) dX9_redexesOf_0 (by decide) ?_
  refine a_istore_n dX9_redexesOf_1 rfl (Nat.le_of_ble_eq_true rfl) (lv2 := [(2, .int 0), (0, .ref a0), (1, .int x1)]) rfl ?_
  refine a_iconst (v := 0) dX9_redexesOf_2 (by decide) ?_
  refine a_istore_n dX9_redexesOf_3 rfl (Nat.le_of_ble_eq_true rfl) (lv2 := [(3, .int 0), (2, .int 0), (0, .ref a0), (1, .int x1)]) rfl ?_
  exact a_lv (lv2 := [(0, .ref a0), (1, .int x1), (2, .int 0), (3, .int 0)]) (fa_cons rfl (fa_cons rfl (fa_cons rfl (fa_cons rfl fa_nil)))) (hJ _ _ _ h)
set_option maxHeartbeats 4000000 in
set_option maxRecDepth 100000 in
noncomputable def T_X9_redexesOf_4.{u} {α : Sort u} (J : Nat → List Value → Mem → α) (R : Int32 → Mem → α) (N : α) (n : Nat) (a0 : Nat) (x1 : Int32) (x2 : Int32) (x3 : Int32) (M : Mem) : α := gd (fO M a0 9) N (if (M.2.2.1 a0 2) ≤ x3 then R x2 M else bnd2 (cal n (fun n => f_X9_redexAt n a0 x3 M)) N (fun v4 M5 => if v4 = 0 then J 4 [.ref a0, .int x1, .int x2, .int (x3 + 1)] M5 else if x1 = 0 then J 4 [.ref a0, .int x1, .int (x2 + 1), .int (x3 + 1)] M5 else if x1 = v4 then J 4 [.ref a0, .int x1, .int (x2 + 1), .int (x3 + 1)] M5 else J 4 [.ref a0, .int x1, .int x2, .int (x3 + 1)] M5))
set_option maxHeartbeats 4000000 in
set_option maxRecDepth 100000 in
theorem n_X9_redexesOf_4.{u, v} {α : Sort u} {β : Sort v} (h : α → β) (J : Nat → List Value → Mem → α) (R : Int32 → Mem → α) (N : α) (n : Nat) (a0 : Nat) (x1 : Int32) (x2 : Int32) (x3 : Int32) (M : Mem) : h (T_X9_redexesOf_4 J R N n a0 x1 x2 x3 M) = T_X9_redexesOf_4 (fun c l M => h (J c l M)) (fun v M => h (R v M)) (h N) n a0 x1 x2 x3 M := by
  simp only [T_X9_redexesOf_4, nat_ite h, nat_gd h, nat_bnd h, nat_bnd2 h]
set_option maxHeartbeats 4000000 in
set_option maxRecDepth 100000 in
theorem w_X9_redexesOf_4 {X : Nat × (Nat → Int32)} {al : Bool} {n : Nat} {Q : Option Value → Mem → Prop} {J : Nat → List Value → Mem → Prop} (hJ : ∀ c l M, J c l M → PW_X9_redexesOf X al n Q c l M) {R : Int32 → Mem → Prop} (hR : ∀ v M, R v M → Q (some (.int v)) M) {a0 : Nat} {x1 : Int32} {x2 : Int32} {x3 : Int32} {M : Mem} (h : T_X9_redexesOf_4 J R False n a0 x1 x2 x3 M) : AW X (RX9, cX9_redexesOf, 5, (some .int), false, al, n) 0 0 4 [(0, .ref a0), (1, .int x1), (2, .int x2), (3, .int x3)] [] M Q := by
  unfold T_X9_redexesOf_4 at h
  refine a_iload_n dX9_redexesOf_4 rfl rfl ?_
  refine a_aload_n dX9_redexesOf_5 rfl rfl ?_
  obtain ⟨⟨ga1, gs2⟩, h⟩ := gd_t h
  refine a_get (v := .int (M.2.2.1 a0 2)) dX9_redexesOf_6 fl_9_18 ga1 gs2 rfl ?_
  refine a_icmp_ge 43 dX9_redexesOf_9 (by decide) (fun c3 => ?_) (fun c3 => ?_)
  · replace h := ite_t c3 h
    refine a_iload_n dX9_redexesOf_43 rfl rfl ?_
    exact a_iret dX9_redexesOf_44 rfl (hR _ _ h)
  · replace h := ite_f c3 h
    refine a_aload_n dX9_redexesOf_12 rfl rfl ?_
    refine a_iload_n dX9_redexesOf_13 rfl rfl ?_
    obtain ⟨v4, M5, e6, h⟩ := bnd2_t h
    obtain ⟨n7, en8, e6⟩ := cal_t e6
    refine e_callV (As := [.int x3]) (st := []) (a := a0) (ci := 9) false dX9_redexesOf_14 mw_X9_redexAt (Or.inl ⟨rfl, ml_X9_39⟩) im_X9_redexAt se_X9_redexAt (by decide) ga1 gs2 rfl (Nat.le_of_ble_eq_true rfl) en8 (s_X9_redexAt e6) ?_
    refine a_istore dX9_redexesOf_17 (Nat.le_of_ble_eq_true rfl) (lv2 := [(4, .int v4), (0, .ref a0), (1, .int x1), (2, .int x2), (3, .int x3)]) rfl ?_
    refine a_iload dX9_redexesOf_19 rfl ?_
    refine a_if_eq 37 dX9_redexesOf_21 (by decide) (fun c9 => ?_) (fun c9 => ?_)
    · replace h := ite_t c9 h
      refine a_iinc (v := (x3 + 1)) dX9_redexesOf_37 rfl (by first | rfl | decide) (Nat.le_of_ble_eq_true rfl) (lv2 := [(3, .int (x3 + 1)), (4, .int v4), (0, .ref a0), (1, .int x1), (2, .int x2)]) rfl ?_
      refine a_goto 4 dX9_redexesOf_40 (by decide) ?_
      exact a_lv (lv2 := [(0, .ref a0), (1, .int x1), (2, .int x2), (3, .int (x3 + 1))]) (fa_cons rfl (fa_cons rfl (fa_cons rfl (fa_cons rfl fa_nil)))) (hJ _ _ _ h)
    · replace h := ite_f c9 h
      refine a_iload_n dX9_redexesOf_24 rfl rfl ?_
      refine a_if_eq 34 dX9_redexesOf_25 (by decide) (fun c10 => ?_) (fun c10 => ?_)
      · replace h := ite_t c10 h
        refine a_iinc (v := (x2 + 1)) dX9_redexesOf_34 rfl (by first | rfl | decide) (Nat.le_of_ble_eq_true rfl) (lv2 := [(2, .int (x2 + 1)), (4, .int v4), (0, .ref a0), (1, .int x1), (3, .int x3)]) rfl ?_
        refine a_iinc (v := (x3 + 1)) dX9_redexesOf_37 rfl (by first | rfl | decide) (Nat.le_of_ble_eq_true rfl) (lv2 := [(3, .int (x3 + 1)), (2, .int (x2 + 1)), (4, .int v4), (0, .ref a0), (1, .int x1)]) rfl ?_
        refine a_goto 4 dX9_redexesOf_40 (by decide) ?_
        exact a_lv (lv2 := [(0, .ref a0), (1, .int x1), (2, .int (x2 + 1)), (3, .int (x3 + 1))]) (fa_cons rfl (fa_cons rfl (fa_cons rfl (fa_cons rfl fa_nil)))) (hJ _ _ _ h)
      · replace h := ite_f c10 h
        refine a_iload_n dX9_redexesOf_28 rfl rfl ?_
        refine a_iload dX9_redexesOf_29 rfl ?_
        refine a_icmp_ne 37 dX9_redexesOf_31 (by decide) (fun c11 => ?_) (fun c11 => ?_)
        · replace h := ite_f c11 h
          refine a_iinc (v := (x3 + 1)) dX9_redexesOf_37 rfl (by first | rfl | decide) (Nat.le_of_ble_eq_true rfl) (lv2 := [(3, .int (x3 + 1)), (4, .int v4), (0, .ref a0), (1, .int x1), (2, .int x2)]) rfl ?_
          refine a_goto 4 dX9_redexesOf_40 (by decide) ?_
          exact a_lv (lv2 := [(0, .ref a0), (1, .int x1), (2, .int x2), (3, .int (x3 + 1))]) (fa_cons rfl (fa_cons rfl (fa_cons rfl (fa_cons rfl fa_nil)))) (hJ _ _ _ h)
        · replace h := ite_t c11 h
          refine a_iinc (v := (x2 + 1)) dX9_redexesOf_34 rfl (by first | rfl | decide) (Nat.le_of_ble_eq_true rfl) (lv2 := [(2, .int (x2 + 1)), (4, .int v4), (0, .ref a0), (1, .int x1), (3, .int x3)]) rfl ?_
          refine a_iinc (v := (x3 + 1)) dX9_redexesOf_37 rfl (by first | rfl | decide) (Nat.le_of_ble_eq_true rfl) (lv2 := [(3, .int (x3 + 1)), (2, .int (x2 + 1)), (4, .int v4), (0, .ref a0), (1, .int x1)]) rfl ?_
          refine a_goto 4 dX9_redexesOf_40 (by decide) ?_
          exact a_lv (lv2 := [(0, .ref a0), (1, .int x1), (2, .int (x2 + 1)), (3, .int (x3 + 1))]) (fa_cons rfl (fa_cons rfl (fa_cons rfl (fa_cons rfl fa_nil)))) (hJ _ _ _ h)
set_option maxHeartbeats 4000000 in
set_option maxRecDepth 100000 in
noncomputable def st_X9_redexesOf (n : Nat) (s : Sg) : Option (Sg ⊕ (Int32 × Mem)) := if s.1 = 0 then vR s.2.1 none (fun a0 t => vI t none (fun x1 t => vE t none (T_X9_redexesOf_0 (fun c l M => some (.inl (c, l, M))) (fun v M => some (.inr (v, M))) none n a0 x1 s.2.2))) else if s.1 = 4 then vR s.2.1 none (fun a0 t => vI t none (fun x1 t => vI t none (fun x2 t => vI t none (fun x3 t => vE t none (T_X9_redexesOf_4 (fun c l M => some (.inl (c, l, M))) (fun v M => some (.inr (v, M))) none n a0 x1 x2 x3 s.2.2))))) else none
noncomputable abbrev g_X9_redexesOf_0 (n : Nat) (a0 : Nat) (x1 : Int32) (M : Mem) : Option (Int32 × Mem) := lp (st_X9_redexesOf n) (0, [.ref a0, .int x1], M)
set_option maxHeartbeats 4000000 in
set_option maxRecDepth 100000 in
theorem ge_X9_redexesOf_0 (n : Nat) (a0 : Nat) (x1 : Int32) (M : Mem) : g_X9_redexesOf_0 n a0 x1 M = T_X9_redexesOf_0 (fun c l M => lp (st_X9_redexesOf n) (c, l, M)) (fun v M => some (v, M)) none n a0 x1 M := (lp_eq _ _).trans (n_X9_redexesOf_0 (lpK (st_X9_redexesOf n)) (fun c l M => some (.inl (c, l, M))) (fun v M => some (.inr (v, M))) none n a0 x1 M)
noncomputable abbrev g_X9_redexesOf_4 (n : Nat) (a0 : Nat) (x1 : Int32) (x2 : Int32) (x3 : Int32) (M : Mem) : Option (Int32 × Mem) := lp (st_X9_redexesOf n) (4, [.ref a0, .int x1, .int x2, .int x3], M)
set_option maxHeartbeats 4000000 in
set_option maxRecDepth 100000 in
theorem ge_X9_redexesOf_4 (n : Nat) (a0 : Nat) (x1 : Int32) (x2 : Int32) (x3 : Int32) (M : Mem) : g_X9_redexesOf_4 n a0 x1 x2 x3 M = T_X9_redexesOf_4 (fun c l M => lp (st_X9_redexesOf n) (c, l, M)) (fun v M => some (v, M)) none n a0 x1 x2 x3 M := (lp_eq _ _).trans (n_X9_redexesOf_4 (lpK (st_X9_redexesOf n)) (fun c l M => some (.inl (c, l, M))) (fun v M => some (.inr (v, M))) none n a0 x1 x2 x3 M)
noncomputable def b_X9_redexesOf (n : Nat) (a0 : Nat) (x1 : Int32) (M : Mem) : Option (Int32 × Mem) := g_X9_redexesOf_0 n a0 x1 M
set_option maxHeartbeats 4000000 in
set_option maxRecDepth 100000 in
theorem sb_X9_redexesOf {X : Nat × (Nat → Int32)} {al : Bool} {n : Nat} {a0 : Nat} {x1 : Int32} {M : Mem} {v : Int32} {M1 : Mem} (h : b_X9_redexesOf n a0 x1 M = some (v, M1)) : AE yX9_redexesOf cX9_redexesOf 5 (some .int) al n X [.ref a0, .int x1] M (some (.int v)) M1 := by
  refine AM.of false (by decide +kernel) (by intro h; cases h) (Nat.le_of_ble_eq_true rfl) ?_
  refine lp_snd (P := fun s r => PW_X9_redexesOf X al n (fun v M2 => v = (some (.int r.1)) ∧ M2 = r.2) s.1 s.2.1 s.2.2) ?_ h
  clear h
  rintro ⟨c, l, M⟩ r h
  unfold st_X9_redexesOf at h
  rcases ite_p h with ⟨e, h⟩ | ⟨e, h⟩
  · replace e : c = 0 := e
    subst e
    obtain ⟨a0, tt0, e, h⟩ := vR_p id h
    replace e : l = _ := e
    subst e
    obtain ⟨x1, tt1, e, h⟩ := vI_p id h
    replace e : tt0 = _ := e
    subst e
    obtain ⟨e, h⟩ := vE_p id h
    replace e : tt1 = [] := e
    subst e
    exact w_X9_redexesOf_0 (J := fun c l M => PW_X9_redexesOf X al n (fun v M2 => v = (some (.int r.1)) ∧ M2 = r.2) c l M) (R := fun v M => (v, M) = r) (fun _ _ _ h => h) (fun v M h => by cases h; exact ⟨rfl, rfl⟩) ((n_X9_redexesOf_0 (lpP (fun (s : Sg) (r : Int32 × Mem) => PW_X9_redexesOf X al n (fun v M2 => v = (some (.int r.1)) ∧ M2 = r.2) s.1 s.2.1 s.2.2) r) (fun c l M => some (.inl (c, l, M))) (fun v M => some (.inr (v, M))) none n a0 x1 M).mp h)
  rcases ite_p h with ⟨e, h⟩ | ⟨e, h⟩
  · replace e : c = 4 := e
    subst e
    obtain ⟨a0, tt0, e, h⟩ := vR_p id h
    replace e : l = _ := e
    subst e
    obtain ⟨x1, tt1, e, h⟩ := vI_p id h
    replace e : tt0 = _ := e
    subst e
    obtain ⟨x2, tt2, e, h⟩ := vI_p id h
    replace e : tt1 = _ := e
    subst e
    obtain ⟨x3, tt3, e, h⟩ := vI_p id h
    replace e : tt2 = _ := e
    subst e
    obtain ⟨e, h⟩ := vE_p id h
    replace e : tt3 = [] := e
    subst e
    exact w_X9_redexesOf_4 (J := fun c l M => PW_X9_redexesOf X al n (fun v M2 => v = (some (.int r.1)) ∧ M2 = r.2) c l M) (R := fun v M => (v, M) = r) (fun _ _ _ h => h) (fun v M h => by cases h; exact ⟨rfl, rfl⟩) ((n_X9_redexesOf_4 (lpP (fun (s : Sg) (r : Int32 × Mem) => PW_X9_redexesOf X al n (fun v M2 => v = (some (.int r.1)) ∧ M2 = r.2) s.1 s.2.1 s.2.2) r) (fun c l M => some (.inl (c, l, M))) (fun v M => some (.inr (v, M))) none n a0 x1 x2 x3 M).mp h)
  · exact h.elim

noncomputable abbrev f_X9_redexesOf := b_X9_redexesOf
theorem s_X9_redexesOf {X : Nat × (Nat → Int32)} {al : Bool} {n : Nat} {a0 : Nat} {x1 : Int32} {M : Mem} {v : Int32} {M1 : Mem} (h : f_X9_redexesOf n a0 x1 M = some (v, M1)) : AE yX9_redexesOf cX9_redexesOf 5 (some .int) al n X [.ref a0, .int x1] M (some (.int v)) M1 := sb_X9_redexesOf h
set_option maxHeartbeats 4000000 in
set_option maxRecDepth 100000 in
noncomputable def T_X1_beginMarks_0.{u} {α : Sort u} (R : Unit → Mem → α) (N : α) (n : Nat) (a0 : Nat) (M : Mem) : α := gd (fO M a0 1) N (R () (wI M a0 8 ((M.2.2.1 a0 8) + 1)))
set_option maxHeartbeats 4000000 in
set_option maxRecDepth 100000 in
theorem n_X1_beginMarks_0.{u, v} {α : Sort u} {β : Sort v} (h : α → β) (R : Unit → Mem → α) (N : α) (n : Nat) (a0 : Nat) (M : Mem) : h (T_X1_beginMarks_0 R N n a0 M) = T_X1_beginMarks_0 (fun v M => h (R v M)) (h N) n a0 M := by
  simp only [T_X1_beginMarks_0, nat_ite h, nat_gd h, nat_bnd h, nat_bnd2 h]
set_option maxHeartbeats 4000000 in
set_option maxRecDepth 100000 in
theorem w_X1_beginMarks_0 {X : Nat × (Nat → Int32)} {al : Bool} {n : Nat} {Q : Option Value → Mem → Prop} {R : Unit → Mem → Prop} (hR : ∀ v M, R v M → Q none M) {a0 : Nat} {M : Mem} (h : T_X1_beginMarks_0 R False n a0 M) : AW X (RX1, cX1_beginMarks, 1, none, false, al, n) 0 0 0 [(0, .ref a0)] [] M Q := by
  unfold T_X1_beginMarks_0 at h
  refine a_aload_n dX1_beginMarks_0 rfl rfl ?_
  refine a_dup dX1_beginMarks_1 rfl ?_
  obtain ⟨⟨ga1, gs2⟩, h⟩ := gd_t h
  refine a_get (v := .int (M.2.2.1 a0 8)) dX1_beginMarks_2 fl_1_59 ga1 gs2 rfl ?_
  refine a_iconst (v := 1) dX1_beginMarks_5 (by decide) ?_
  refine a_iadd dX1_beginMarks_6 ?_
  refine a_putI dX1_beginMarks_7 (Or.inl ⟨fl_1_59, Or.inl rfl⟩) rfl ga1 gs2 rfl rfl ?_
  exact a_vret dX1_beginMarks_10 rfl (hR _ _ h)
noncomputable def b_X1_beginMarks (n : Nat) (a0 : Nat) (M : Mem) : Option (Unit × Mem) := T_X1_beginMarks_0 (fun v M => some (v, M)) none n a0 M
set_option maxHeartbeats 4000000 in
set_option maxRecDepth 100000 in
theorem sb_X1_beginMarks {X : Nat × (Nat → Int32)} {al : Bool} {n : Nat} {a0 : Nat} {M : Mem} {v : Unit} {M1 : Mem} (h : b_X1_beginMarks n a0 M = some (v, M1)) : AE yX1_beginMarks cX1_beginMarks 1 none al n X [.ref a0] M none M1 := by
  refine AM.of false (by decide +kernel) (by intro h; cases h) (Nat.le_of_ble_eq_true rfl) ?_
  have h2 : T_X1_beginMarks_0 (fun v2 M2 => some (v2, M2) = some (v, M1)) (none = some (v, M1)) n a0 M := (n_X1_beginMarks_0 (fun o => o = some (v, M1)) (fun v M => some (v, M)) none n a0 M).mp h
  have h3 : ((none : Option (Unit × Mem)) = some (v, M1)) = False := eq_false (by intro q; cases q)
  rw [h3] at h2
  exact w_X1_beginMarks_0 (fun v2 M2 h => by cases h; exact ⟨rfl, rfl⟩) h2

noncomputable abbrev f_X1_beginMarks := b_X1_beginMarks
theorem s_X1_beginMarks {X : Nat × (Nat → Int32)} {al : Bool} {n : Nat} {a0 : Nat} {M : Mem} {v : Unit} {M1 : Mem} (h : f_X1_beginMarks n a0 M = some (v, M1)) : AE yX1_beginMarks cX1_beginMarks 1 none al n X [.ref a0] M none M1 := sb_X1_beginMarks h
set_option maxHeartbeats 4000000 in
set_option maxRecDepth 100000 in
noncomputable def T_X1_mark_0.{u} {α : Sort u} (R : Int32 → Mem → α) (N : α) (n : Nat) (a0 : Nat) (x1 : Int32) (M : Mem) : α := if x1 < 0 then R 0 M else gd (fO M a0 1) N (if (M.2.2.1 a0 7) ≤ x1 then R 0 M else bnd (M.2.2.2.2 a0 5) N (fun r5 => gd (fA M r5 1 x1) N (if (M.2.2.1 r5 (x1.toNatClampNeg)) = (M.2.2.1 a0 8) then R 0 M else R 1 (wI M r5 (x1.toNatClampNeg) (M.2.2.1 a0 8)))))
set_option maxHeartbeats 4000000 in
set_option maxRecDepth 100000 in
theorem n_X1_mark_0.{u, v} {α : Sort u} {β : Sort v} (h : α → β) (R : Int32 → Mem → α) (N : α) (n : Nat) (a0 : Nat) (x1 : Int32) (M : Mem) : h (T_X1_mark_0 R N n a0 x1 M) = T_X1_mark_0 (fun v M => h (R v M)) (h N) n a0 x1 M := by
  simp only [T_X1_mark_0, nat_ite h, nat_gd h, nat_bnd h, nat_bnd2 h]
set_option maxHeartbeats 4000000 in
set_option maxRecDepth 100000 in
theorem w_X1_mark_0 {X : Nat × (Nat → Int32)} {al : Bool} {n : Nat} {Q : Option Value → Mem → Prop} {R : Int32 → Mem → Prop} (hR : ∀ v M, R v M → Q (some (.int v)) M) {a0 : Nat} {x1 : Int32} {M : Mem} (h : T_X1_mark_0 R False n a0 x1 M) : AW X (RX1, cX1_mark, 2, (some .boolean), false, al, n) 0 0 0 [(0, .ref a0), (1, .int x1)] [] M Q := by
  unfold T_X1_mark_0 at h
  refine a_iload_n dX1_mark_0 rfl rfl ?_
  refine a_if_lt 25 dX1_mark_1 (by decide) (fun c1 => ?_) (fun c1 => ?_)
  · replace h := ite_t c1 h
    refine a_iconst (v := 0) dX1_mark_25 (by decide) ?_
    exact a_zret dX1_mark_26 rfl rfl (hR _ _ h)
  · replace h := ite_f c1 h
    refine a_iload_n dX1_mark_4 rfl rfl ?_
    refine a_aload_n dX1_mark_5 rfl rfl ?_
    obtain ⟨⟨ga2, gs3⟩, h⟩ := gd_t h
    refine a_get (v := .int (M.2.2.1 a0 7)) dX1_mark_6 fl_1_38 ga2 gs3 rfl ?_
    refine a_icmp_ge 25 dX1_mark_9 (by decide) (fun c4 => ?_) (fun c4 => ?_)
    · replace h := ite_t c4 h
      refine a_iconst (v := 0) dX1_mark_25 (by decide) ?_
      exact a_zret dX1_mark_26 rfl rfl (hR _ _ h)
    · replace h := ite_f c4 h
      refine a_aload_n dX1_mark_12 rfl rfl ?_
      obtain ⟨r5, e6, h⟩ := bnd_t h
      refine a_get (v := .ref r5) dX1_mark_13 fl_1_28 ga2 gs3 (gvR e6 rfl) ?_
      refine a_iload_n dX1_mark_16 rfl rfl ?_
      obtain ⟨⟨ga7, gn8, gs9, gi10⟩, h⟩ := gd_t h
      refine a_iaload dX1_mark_17 ga7 gs9 gi10 ?_
      refine a_aload_n dX1_mark_18 rfl rfl ?_
      refine a_get (v := .int (M.2.2.1 a0 8)) dX1_mark_19 fl_1_59 ga2 gs3 rfl ?_
      refine a_icmp_ne 27 dX1_mark_22 (by decide) (fun c11 => ?_) (fun c11 => ?_)
      · replace h := ite_f c11 h
        refine a_aload_n dX1_mark_27 rfl rfl ?_
        refine a_get (v := .ref r5) dX1_mark_28 fl_1_28 ga2 gs3 (gvR e6 rfl) ?_
        refine a_iload_n dX1_mark_31 rfl rfl ?_
        refine a_aload_n dX1_mark_32 rfl rfl ?_
        refine a_get (v := .int (M.2.2.1 a0 8)) dX1_mark_33 fl_1_59 ga2 gs3 rfl ?_
        refine a_iastore dX1_mark_36 ga7 gs9 gi10 ?_
        refine a_iconst (v := 1) dX1_mark_37 (by decide) ?_
        exact a_zret dX1_mark_38 rfl rfl (hR _ _ h)
      · replace h := ite_t c11 h
        refine a_iconst (v := 0) dX1_mark_25 (by decide) ?_
        exact a_zret dX1_mark_26 rfl rfl (hR _ _ h)
noncomputable def b_X1_mark (n : Nat) (a0 : Nat) (x1 : Int32) (M : Mem) : Option (Int32 × Mem) := T_X1_mark_0 (fun v M => some (v, M)) none n a0 x1 M
set_option maxHeartbeats 4000000 in
set_option maxRecDepth 100000 in
theorem sb_X1_mark {X : Nat × (Nat → Int32)} {al : Bool} {n : Nat} {a0 : Nat} {x1 : Int32} {M : Mem} {v : Int32} {M1 : Mem} (h : b_X1_mark n a0 x1 M = some (v, M1)) : AE yX1_mark cX1_mark 2 (some .boolean) al n X [.ref a0, .int x1] M (some (.int v)) M1 := by
  refine AM.of false (by decide +kernel) (by intro h; cases h) (Nat.le_of_ble_eq_true rfl) ?_
  have h2 : T_X1_mark_0 (fun v2 M2 => some (v2, M2) = some (v, M1)) (none = some (v, M1)) n a0 x1 M := (n_X1_mark_0 (fun o => o = some (v, M1)) (fun v M => some (v, M)) none n a0 x1 M).mp h
  have h3 : ((none : Option (Int32 × Mem)) = some (v, M1)) = False := eq_false (by intro q; cases q)
  rw [h3] at h2
  exact w_X1_mark_0 (fun v2 M2 h => by cases h; exact ⟨rfl, rfl⟩) h2

noncomputable abbrev f_X1_mark := b_X1_mark
theorem s_X1_mark {X : Nat × (Nat → Int32)} {al : Bool} {n : Nat} {a0 : Nat} {x1 : Int32} {M : Mem} {v : Int32} {M1 : Mem} (h : f_X1_mark n a0 x1 M = some (v, M1)) : AE yX1_mark cX1_mark 2 (some .boolean) al n X [.ref a0, .int x1] M (some (.int v)) M1 := sb_X1_mark h
def ix_X2_markFormulas (c : Nat) : List Nat := if c = 0 then [0, 1] else if c = 2 then [0, 1, 2] else []
def PW_X2_markFormulas (X : Nat × (Nat → Int32)) (al : Bool) (n : Nat) (Q : Option Value → Mem → Prop) (c : Nat) (l : List Value) (M : Mem) : Prop := AW X (RX2, cX2_markFormulas, 3, none, false, al, n) 0 0 c (List.zip (ix_X2_markFormulas c) l) (l.drop (ix_X2_markFormulas c).length) M Q
set_option maxHeartbeats 4000000 in
set_option maxRecDepth 100000 in
noncomputable def T_X2_markFormulas_0.{u} {α : Sort u} (J : Nat → List Value → Mem → α) (R : Unit → Mem → α) (N : α) (n : Nat) (a0 : Nat) (a1 : Nat) (M : Mem) : α := J 2 [.ref a0, .ref a1, .int 0] M
set_option maxHeartbeats 4000000 in
set_option maxRecDepth 100000 in
theorem n_X2_markFormulas_0.{u, v} {α : Sort u} {β : Sort v} (h : α → β) (J : Nat → List Value → Mem → α) (R : Unit → Mem → α) (N : α) (n : Nat) (a0 : Nat) (a1 : Nat) (M : Mem) : h (T_X2_markFormulas_0 J R N n a0 a1 M) = T_X2_markFormulas_0 (fun c l M => h (J c l M)) (fun v M => h (R v M)) (h N) n a0 a1 M := by
  simp only [T_X2_markFormulas_0, nat_ite h, nat_gd h, nat_bnd h, nat_bnd2 h]
set_option maxHeartbeats 4000000 in
set_option maxRecDepth 100000 in
theorem w_X2_markFormulas_0 {X : Nat × (Nat → Int32)} {al : Bool} {n : Nat} {Q : Option Value → Mem → Prop} {J : Nat → List Value → Mem → Prop} (hJ : ∀ c l M, J c l M → PW_X2_markFormulas X al n Q c l M) {R : Unit → Mem → Prop} (hR : ∀ v M, R v M → Q none M) {a0 : Nat} {a1 : Nat} {M : Mem} (h : T_X2_markFormulas_0 J R False n a0 a1 M) : AW X (RX2, cX2_markFormulas, 3, none, false, al, n) 0 0 0 [(0, .ref a0), (1, .ref a1)] [] M Q := by
  unfold T_X2_markFormulas_0 at h
  refine a_iconst (v := 0) dX2_markFormulas_0 (by decide) ?_
  refine a_istore_n dX2_markFormulas_1 rfl (Nat.le_of_ble_eq_true rfl) (lv2 := [(2, .int 0), (0, .ref a0), (1, .ref a1)]) rfl ?_
  exact a_lv (lv2 := [(0, .ref a0), (1, .ref a1), (2, .int 0)]) (fa_cons rfl (fa_cons rfl (fa_cons rfl fa_nil))) (hJ _ _ _ h)
set_option maxHeartbeats 4000000 in
set_option maxRecDepth 100000 in
noncomputable def T_X2_markFormulas_2.{u} {α : Sort u} (J : Nat → List Value → Mem → α) (R : Unit → Mem → α) (N : α) (n : Nat) (a0 : Nat) (a1 : Nat) (x2 : Int32) (M : Mem) : α := gd (fO M a0 2) N (if (M.2.2.1 a0 3) ≤ x2 then R () M else if 6 ≤ x2 then R () M else bnd (M.2.2.2.2 a0 1) N (fun r5 => gd (fA M r5 1 x2) N (gd (fO M a1 1) N (bnd2 (cal n (fun n => f_X1_mark n a1 (M.2.2.1 r5 (x2.toNatClampNeg)) M)) N (fun v13 M14 => J 2 [.ref a0, .ref a1, .int (x2 + 1)] M14)))))
set_option maxHeartbeats 4000000 in
set_option maxRecDepth 100000 in
theorem n_X2_markFormulas_2.{u, v} {α : Sort u} {β : Sort v} (h : α → β) (J : Nat → List Value → Mem → α) (R : Unit → Mem → α) (N : α) (n : Nat) (a0 : Nat) (a1 : Nat) (x2 : Int32) (M : Mem) : h (T_X2_markFormulas_2 J R N n a0 a1 x2 M) = T_X2_markFormulas_2 (fun c l M => h (J c l M)) (fun v M => h (R v M)) (h N) n a0 a1 x2 M := by
  simp only [T_X2_markFormulas_2, nat_ite h, nat_gd h, nat_bnd h, nat_bnd2 h]
set_option maxHeartbeats 4000000 in
set_option maxRecDepth 100000 in
theorem w_X2_markFormulas_2 {X : Nat × (Nat → Int32)} {al : Bool} {n : Nat} {Q : Option Value → Mem → Prop} {J : Nat → List Value → Mem → Prop} (hJ : ∀ c l M, J c l M → PW_X2_markFormulas X al n Q c l M) {R : Unit → Mem → Prop} (hR : ∀ v M, R v M → Q none M) {a0 : Nat} {a1 : Nat} {x2 : Int32} {M : Mem} (h : T_X2_markFormulas_2 J R False n a0 a1 x2 M) : AW X (RX2, cX2_markFormulas, 3, none, false, al, n) 0 0 2 [(0, .ref a0), (1, .ref a1), (2, .int x2)] [] M Q := by
  unfold T_X2_markFormulas_2 at h
  refine a_iload_n dX2_markFormulas_2 rfl rfl ?_
  refine a_aload_n dX2_markFormulas_3 rfl rfl ?_
  obtain ⟨⟨ga1, gs2⟩, h⟩ := gd_t h
  refine a_get (v := .int (M.2.2.1 a0 3)) dX2_markFormulas_4 fl_2_21 ga1 gs2 rfl ?_
  refine a_icmp_ge 33 dX2_markFormulas_7 (by decide) (fun c3 => ?_) (fun c3 => ?_)
  · replace h := ite_t c3 h
    exact a_vret dX2_markFormulas_33 rfl (hR _ _ h)
  · replace h := ite_f c3 h
    refine a_iload_n dX2_markFormulas_10 rfl rfl ?_
    refine a_bipush (v := 6) dX2_markFormulas_11 (by decide) ?_
    refine a_icmp_ge 33 dX2_markFormulas_13 (by decide) (fun c4 => ?_) (fun c4 => ?_)
    · replace h := ite_t c4 h
      exact a_vret dX2_markFormulas_33 rfl (hR _ _ h)
    · replace h := ite_f c4 h
      refine a_aload_n dX2_markFormulas_16 rfl rfl ?_
      refine a_aload_n dX2_markFormulas_17 rfl rfl ?_
      obtain ⟨r5, e6, h⟩ := bnd_t h
      refine a_get (v := .ref r5) dX2_markFormulas_18 fl_2_15 ga1 gs2 (gvR e6 rfl) ?_
      refine a_iload_n dX2_markFormulas_21 rfl rfl ?_
      obtain ⟨⟨ga7, gn8, gs9, gi10⟩, h⟩ := gd_t h
      refine a_iaload dX2_markFormulas_22 ga7 gs9 gi10 ?_
      obtain ⟨⟨ga11, gs12⟩, h⟩ := gd_t h
      obtain ⟨v13, M14, e15, h⟩ := bnd2_t h
      obtain ⟨n16, en17, e15⟩ := cal_t e15
      refine e_callV (As := [.int (M.2.2.1 r5 (x2.toNatClampNeg))]) (st := []) (a := a1) (ci := 1) false dX2_markFormulas_23 mw_X1_mark (Or.inl ⟨rfl, ml_X2_32⟩) im_X1_mark se_X1_mark (by decide) ga11 gs12 rfl (Nat.le_of_ble_eq_true rfl) en17 (s_X1_mark e15) ?_
      refine a_pop dX2_markFormulas_26 rfl ?_
      refine a_iinc (v := (x2 + 1)) dX2_markFormulas_27 rfl (by first | rfl | decide) (Nat.le_of_ble_eq_true rfl) (lv2 := [(2, .int (x2 + 1)), (0, .ref a0), (1, .ref a1)]) rfl ?_
      refine a_goto 2 dX2_markFormulas_30 (by decide) ?_
      exact a_lv (lv2 := [(0, .ref a0), (1, .ref a1), (2, .int (x2 + 1))]) (fa_cons rfl (fa_cons rfl (fa_cons rfl fa_nil))) (hJ _ _ _ h)
set_option maxHeartbeats 4000000 in
set_option maxRecDepth 100000 in
noncomputable def st_X2_markFormulas (n : Nat) (s : Sg) : Option (Sg ⊕ (Unit × Mem)) := if s.1 = 0 then vR s.2.1 none (fun a0 t => vR t none (fun a1 t => vE t none (T_X2_markFormulas_0 (fun c l M => some (.inl (c, l, M))) (fun v M => some (.inr (v, M))) none n a0 a1 s.2.2))) else if s.1 = 2 then vR s.2.1 none (fun a0 t => vR t none (fun a1 t => vI t none (fun x2 t => vE t none (T_X2_markFormulas_2 (fun c l M => some (.inl (c, l, M))) (fun v M => some (.inr (v, M))) none n a0 a1 x2 s.2.2)))) else none
noncomputable abbrev g_X2_markFormulas_0 (n : Nat) (a0 : Nat) (a1 : Nat) (M : Mem) : Option (Unit × Mem) := lp (st_X2_markFormulas n) (0, [.ref a0, .ref a1], M)
set_option maxHeartbeats 4000000 in
set_option maxRecDepth 100000 in
theorem ge_X2_markFormulas_0 (n : Nat) (a0 : Nat) (a1 : Nat) (M : Mem) : g_X2_markFormulas_0 n a0 a1 M = T_X2_markFormulas_0 (fun c l M => lp (st_X2_markFormulas n) (c, l, M)) (fun v M => some (v, M)) none n a0 a1 M := (lp_eq _ _).trans (n_X2_markFormulas_0 (lpK (st_X2_markFormulas n)) (fun c l M => some (.inl (c, l, M))) (fun v M => some (.inr (v, M))) none n a0 a1 M)
noncomputable abbrev g_X2_markFormulas_2 (n : Nat) (a0 : Nat) (a1 : Nat) (x2 : Int32) (M : Mem) : Option (Unit × Mem) := lp (st_X2_markFormulas n) (2, [.ref a0, .ref a1, .int x2], M)
set_option maxHeartbeats 4000000 in
set_option maxRecDepth 100000 in
theorem ge_X2_markFormulas_2 (n : Nat) (a0 : Nat) (a1 : Nat) (x2 : Int32) (M : Mem) : g_X2_markFormulas_2 n a0 a1 x2 M = T_X2_markFormulas_2 (fun c l M => lp (st_X2_markFormulas n) (c, l, M)) (fun v M => some (v, M)) none n a0 a1 x2 M := (lp_eq _ _).trans (n_X2_markFormulas_2 (lpK (st_X2_markFormulas n)) (fun c l M => some (.inl (c, l, M))) (fun v M => some (.inr (v, M))) none n a0 a1 x2 M)
noncomputable def b_X2_markFormulas (n : Nat) (a0 : Nat) (a1 : Nat) (M : Mem) : Option (Unit × Mem) := g_X2_markFormulas_0 n a0 a1 M
set_option maxHeartbeats 4000000 in
set_option maxRecDepth 100000 in
theorem sb_X2_markFormulas {X : Nat × (Nat → Int32)} {al : Bool} {n : Nat} {a0 : Nat} {a1 : Nat} {M : Mem} {v : Unit} {M1 : Mem} (h : b_X2_markFormulas n a0 a1 M = some (v, M1)) : AE yX2_markFormulas cX2_markFormulas 3 none al n X [.ref a0, .ref a1] M none M1 := by
  refine AM.of false (by decide +kernel) (by intro h; cases h) (Nat.le_of_ble_eq_true rfl) ?_
  refine lp_snd (P := fun s r => PW_X2_markFormulas X al n (fun v M2 => v = none ∧ M2 = r.2) s.1 s.2.1 s.2.2) ?_ h
  clear h
  rintro ⟨c, l, M⟩ r h
  unfold st_X2_markFormulas at h
  rcases ite_p h with ⟨e, h⟩ | ⟨e, h⟩
  · replace e : c = 0 := e
    subst e
    obtain ⟨a0, tt0, e, h⟩ := vR_p id h
    replace e : l = _ := e
    subst e
    obtain ⟨a1, tt1, e, h⟩ := vR_p id h
    replace e : tt0 = _ := e
    subst e
    obtain ⟨e, h⟩ := vE_p id h
    replace e : tt1 = [] := e
    subst e
    exact w_X2_markFormulas_0 (J := fun c l M => PW_X2_markFormulas X al n (fun v M2 => v = none ∧ M2 = r.2) c l M) (R := fun v M => (v, M) = r) (fun _ _ _ h => h) (fun v M h => by cases h; exact ⟨rfl, rfl⟩) ((n_X2_markFormulas_0 (lpP (fun (s : Sg) (r : Unit × Mem) => PW_X2_markFormulas X al n (fun v M2 => v = none ∧ M2 = r.2) s.1 s.2.1 s.2.2) r) (fun c l M => some (.inl (c, l, M))) (fun v M => some (.inr (v, M))) none n a0 a1 M).mp h)
  rcases ite_p h with ⟨e, h⟩ | ⟨e, h⟩
  · replace e : c = 2 := e
    subst e
    obtain ⟨a0, tt0, e, h⟩ := vR_p id h
    replace e : l = _ := e
    subst e
    obtain ⟨a1, tt1, e, h⟩ := vR_p id h
    replace e : tt0 = _ := e
    subst e
    obtain ⟨x2, tt2, e, h⟩ := vI_p id h
    replace e : tt1 = _ := e
    subst e
    obtain ⟨e, h⟩ := vE_p id h
    replace e : tt2 = [] := e
    subst e
    exact w_X2_markFormulas_2 (J := fun c l M => PW_X2_markFormulas X al n (fun v M2 => v = none ∧ M2 = r.2) c l M) (R := fun v M => (v, M) = r) (fun _ _ _ h => h) (fun v M h => by cases h; exact ⟨rfl, rfl⟩) ((n_X2_markFormulas_2 (lpP (fun (s : Sg) (r : Unit × Mem) => PW_X2_markFormulas X al n (fun v M2 => v = none ∧ M2 = r.2) s.1 s.2.1 s.2.2) r) (fun c l M => some (.inl (c, l, M))) (fun v M => some (.inr (v, M))) none n a0 a1 x2 M).mp h)
  · exact h.elim

noncomputable abbrev f_X2_markFormulas := b_X2_markFormulas
theorem s_X2_markFormulas {X : Nat × (Nat → Int32)} {al : Bool} {n : Nat} {a0 : Nat} {a1 : Nat} {M : Mem} {v : Unit} {M1 : Mem} (h : f_X2_markFormulas n a0 a1 M = some (v, M1)) : AE yX2_markFormulas cX2_markFormulas 3 none al n X [.ref a0, .ref a1] M none M1 := sb_X2_markFormulas h
def ix_X1_markParts (c : Nat) : List Nat := if c = 0 then [0] else if c = 9 then [0, 1, 2] else []
def PW_X1_markParts (X : Nat × (Nat → Int32)) (al : Bool) (n : Nat) (Q : Option Value → Mem → Prop) (c : Nat) (l : List Value) (M : Mem) : Prop := AW X (RX1, cX1_markParts, 3, (some .int), false, al, n) 0 0 c (List.zip (ix_X1_markParts c) l) (l.drop (ix_X1_markParts c).length) M Q
set_option maxHeartbeats 4000000 in
set_option maxRecDepth 100000 in
noncomputable def T_X1_markParts_0.{u} {α : Sort u} (J : Nat → List Value → Mem → α) (R : Int32 → Mem → α) (N : α) (n : Nat) (a0 : Nat) (M : Mem) : α := gd (fO M a0 1) N (J 9 [.ref a0, .int 0, .int ((M.2.2.1 a0 7) - 1)] M)
set_option maxHeartbeats 4000000 in
set_option maxRecDepth 100000 in
theorem n_X1_markParts_0.{u, v} {α : Sort u} {β : Sort v} (h : α → β) (J : Nat → List Value → Mem → α) (R : Int32 → Mem → α) (N : α) (n : Nat) (a0 : Nat) (M : Mem) : h (T_X1_markParts_0 J R N n a0 M) = T_X1_markParts_0 (fun c l M => h (J c l M)) (fun v M => h (R v M)) (h N) n a0 M := by
  simp only [T_X1_markParts_0, nat_ite h, nat_gd h, nat_bnd h, nat_bnd2 h]
set_option maxHeartbeats 4000000 in
set_option maxRecDepth 100000 in
theorem w_X1_markParts_0 {X : Nat × (Nat → Int32)} {al : Bool} {n : Nat} {Q : Option Value → Mem → Prop} {J : Nat → List Value → Mem → Prop} (hJ : ∀ c l M, J c l M → PW_X1_markParts X al n Q c l M) {R : Int32 → Mem → Prop} (hR : ∀ v M, R v M → Q (some (.int v)) M) {a0 : Nat} {M : Mem} (h : T_X1_markParts_0 J R False n a0 M) : AW X (RX1, cX1_markParts, 3, (some .int), false, al, n) 0 0 0 [(0, .ref a0)] [] M Q := by
  unfold T_X1_markParts_0 at h
  refine a_iconst (v := 0) dX1_markParts_0 (by decide) ?_
  refine a_istore_n dX1_markParts_1 rfl (Nat.le_of_ble_eq_true rfl) (lv2 := [(1, .int 0), (0, .ref a0)]) rfl ?_
  refine a_aload_n dX1_markParts_2 rfl rfl ?_
  obtain ⟨⟨ga1, gs2⟩, h⟩ := gd_t h
  refine a_get (v := .int (M.2.2.1 a0 7)) dX1_markParts_3 fl_1_38 ga1 gs2 rfl ?_
  refine a_iconst (v := 1) dX1_markParts_6 (by decide) ?_
  refine a_isub dX1_markParts_7 ?_
  refine a_istore_n dX1_markParts_8 rfl (Nat.le_of_ble_eq_true rfl) (lv2 := [(2, .int ((M.2.2.1 a0 7) - 1)), (1, .int 0), (0, .ref a0)]) rfl ?_
  exact a_lv (lv2 := [(0, .ref a0), (1, .int 0), (2, .int ((M.2.2.1 a0 7) - 1))]) (fa_cons rfl (fa_cons rfl (fa_cons rfl fa_nil))) (hJ _ _ _ h)
set_option maxHeartbeats 4000000 in
set_option maxRecDepth 100000 in
noncomputable def T_X1_markParts_9.{u} {α : Sort u} (J : Nat → List Value → Mem → α) (R : Int32 → Mem → α) (N : α) (n : Nat) (a0 : Nat) (x1 : Int32) (x2 : Int32) (M : Mem) : α := if x2 < 0 then R x1 M else gd (fO M a0 1) N (bnd (M.2.2.2.2 a0 5) N (fun r4 => gd (fA M r4 1 x2) N (if (M.2.2.1 r4 (x2.toNatClampNeg)) = (M.2.2.1 a0 8) then bnd (M.2.2.2.2 a0 1) N (fun r11 => gd (fA M r11 1 x2) N (bnd2 (cal n (fun n => f_X1_mark n a0 (M.2.2.1 r11 (x2.toNatClampNeg)) M)) N (fun v17 M18 => gd (fO M18 a0 1) N (bnd (M18.2.2.2.2 a0 2) N (fun r24 => gd (fA M18 r24 1 x2) N (bnd2 (cal n (fun n => f_X1_mark n a0 (M18.2.2.1 r24 (x2.toNatClampNeg)) M18)) N (fun v30 M31 => J 9 [.ref a0, .int (x1 + 1), .int (x2 + (-1))] M31))))))) else J 9 [.ref a0, .int x1, .int (x2 + (-1))] M)))
set_option maxHeartbeats 4000000 in
set_option maxRecDepth 100000 in
theorem n_X1_markParts_9.{u, v} {α : Sort u} {β : Sort v} (h : α → β) (J : Nat → List Value → Mem → α) (R : Int32 → Mem → α) (N : α) (n : Nat) (a0 : Nat) (x1 : Int32) (x2 : Int32) (M : Mem) : h (T_X1_markParts_9 J R N n a0 x1 x2 M) = T_X1_markParts_9 (fun c l M => h (J c l M)) (fun v M => h (R v M)) (h N) n a0 x1 x2 M := by
  simp only [T_X1_markParts_9, nat_ite h, nat_gd h, nat_bnd h, nat_bnd2 h]
set_option maxHeartbeats 4000000 in
set_option maxRecDepth 100000 in
theorem w_X1_markParts_9 {X : Nat × (Nat → Int32)} {al : Bool} {n : Nat} {Q : Option Value → Mem → Prop} {J : Nat → List Value → Mem → Prop} (hJ : ∀ c l M, J c l M → PW_X1_markParts X al n Q c l M) {R : Int32 → Mem → Prop} (hR : ∀ v M, R v M → Q (some (.int v)) M) {a0 : Nat} {x1 : Int32} {x2 : Int32} {M : Mem} (h : T_X1_markParts_9 J R False n a0 x1 x2 M) : AW X (RX1, cX1_markParts, 3, (some .int), false, al, n) 0 0 9 [(0, .ref a0), (1, .int x1), (2, .int x2)] [] M Q := by
  unfold T_X1_markParts_9 at h
  refine a_iload_n dX1_markParts_9 rfl rfl ?_
  refine a_if_lt 57 dX1_markParts_10 (by decide) (fun c1 => ?_) (fun c1 => ?_)
  · replace h := ite_t c1 h
    refine a_iload_n dX1_markParts_57 rfl rfl ?_
    exact a_iret dX1_markParts_58 rfl (hR _ _ h)
  · replace h := ite_f c1 h
    refine a_aload_n dX1_markParts_13 rfl rfl ?_
    obtain ⟨⟨ga2, gs3⟩, h⟩ := gd_t h
    obtain ⟨r4, e5, h⟩ := bnd_t h
    refine a_get (v := .ref r4) dX1_markParts_14 fl_1_28 ga2 gs3 (gvR e5 rfl) ?_
    refine a_iload_n dX1_markParts_17 rfl rfl ?_
    obtain ⟨⟨ga6, gn7, gs8, gi9⟩, h⟩ := gd_t h
    refine a_iaload dX1_markParts_18 ga6 gs8 gi9 ?_
    refine a_aload_n dX1_markParts_19 rfl rfl ?_
    refine a_get (v := .int (M.2.2.1 a0 8)) dX1_markParts_20 fl_1_59 ga2 gs3 rfl ?_
    refine a_icmp_ne 51 dX1_markParts_23 (by decide) (fun c10 => ?_) (fun c10 => ?_)
    · replace h := ite_f c10 h
      refine a_iinc (v := (x2 + (-1))) dX1_markParts_51 rfl (by first | rfl | decide) (Nat.le_of_ble_eq_true rfl) (lv2 := [(2, .int (x2 + (-1))), (0, .ref a0), (1, .int x1)]) rfl ?_
      refine a_goto 9 dX1_markParts_54 (by decide) ?_
      exact a_lv (lv2 := [(0, .ref a0), (1, .int x1), (2, .int (x2 + (-1)))]) (fa_cons rfl (fa_cons rfl (fa_cons rfl fa_nil))) (hJ _ _ _ h)
    · replace h := ite_t c10 h
      refine a_aload_n dX1_markParts_26 rfl rfl ?_
      refine a_aload_n dX1_markParts_27 rfl rfl ?_
      obtain ⟨r11, e12, h⟩ := bnd_t h
      refine a_get (v := .ref r11) dX1_markParts_28 fl_1_15 ga2 gs3 (gvR e12 rfl) ?_
      refine a_iload_n dX1_markParts_31 rfl rfl ?_
      obtain ⟨⟨ga13, gn14, gs15, gi16⟩, h⟩ := gd_t h
      refine a_iaload dX1_markParts_32 ga13 gs15 gi16 ?_
      obtain ⟨v17, M18, e19, h⟩ := bnd2_t h
      obtain ⟨n20, en21, e19⟩ := cal_t e19
      refine e_callV (As := [.int (M.2.2.1 r11 (x2.toNatClampNeg))]) (st := []) (a := a0) (ci := 1) false dX1_markParts_33 mw_X1_mark (Or.inl ⟨rfl, ml_X1_62⟩) im_X1_mark se_X1_mark (by decide) ga2 gs3 rfl (Nat.le_of_ble_eq_true rfl) en21 (s_X1_mark e19) ?_
      refine a_pop dX1_markParts_36 rfl ?_
      refine a_aload_n dX1_markParts_37 rfl rfl ?_
      refine a_aload_n dX1_markParts_38 rfl rfl ?_
      obtain ⟨⟨ga22, gs23⟩, h⟩ := gd_t h
      obtain ⟨r24, e25, h⟩ := bnd_t h
      refine a_get (v := .ref r24) dX1_markParts_39 fl_1_18 ga22 gs23 (gvR e25 rfl) ?_
      refine a_iload_n dX1_markParts_42 rfl rfl ?_
      obtain ⟨⟨ga26, gn27, gs28, gi29⟩, h⟩ := gd_t h
      refine a_iaload dX1_markParts_43 ga26 gs28 gi29 ?_
      obtain ⟨v30, M31, e32, h⟩ := bnd2_t h
      obtain ⟨n33, en34, e32⟩ := cal_t e32
      refine e_callV (As := [.int (M18.2.2.1 r24 (x2.toNatClampNeg))]) (st := []) (a := a0) (ci := 1) false dX1_markParts_44 mw_X1_mark (Or.inl ⟨rfl, ml_X1_62⟩) im_X1_mark se_X1_mark (by decide) ga22 gs23 rfl (Nat.le_of_ble_eq_true rfl) en34 (s_X1_mark e32) ?_
      refine a_pop dX1_markParts_47 rfl ?_
      refine a_iinc (v := (x1 + 1)) dX1_markParts_48 rfl (by first | rfl | decide) (Nat.le_of_ble_eq_true rfl) (lv2 := [(1, .int (x1 + 1)), (0, .ref a0), (2, .int x2)]) rfl ?_
      refine a_iinc (v := (x2 + (-1))) dX1_markParts_51 rfl (by first | rfl | decide) (Nat.le_of_ble_eq_true rfl) (lv2 := [(2, .int (x2 + (-1))), (1, .int (x1 + 1)), (0, .ref a0)]) rfl ?_
      refine a_goto 9 dX1_markParts_54 (by decide) ?_
      exact a_lv (lv2 := [(0, .ref a0), (1, .int (x1 + 1)), (2, .int (x2 + (-1)))]) (fa_cons rfl (fa_cons rfl (fa_cons rfl fa_nil))) (hJ _ _ _ h)
set_option maxHeartbeats 4000000 in
set_option maxRecDepth 100000 in
noncomputable def st_X1_markParts (n : Nat) (s : Sg) : Option (Sg ⊕ (Int32 × Mem)) := if s.1 = 0 then vR s.2.1 none (fun a0 t => vE t none (T_X1_markParts_0 (fun c l M => some (.inl (c, l, M))) (fun v M => some (.inr (v, M))) none n a0 s.2.2)) else if s.1 = 9 then vR s.2.1 none (fun a0 t => vI t none (fun x1 t => vI t none (fun x2 t => vE t none (T_X1_markParts_9 (fun c l M => some (.inl (c, l, M))) (fun v M => some (.inr (v, M))) none n a0 x1 x2 s.2.2)))) else none
noncomputable abbrev g_X1_markParts_0 (n : Nat) (a0 : Nat) (M : Mem) : Option (Int32 × Mem) := lp (st_X1_markParts n) (0, [.ref a0], M)
set_option maxHeartbeats 4000000 in
set_option maxRecDepth 100000 in
theorem ge_X1_markParts_0 (n : Nat) (a0 : Nat) (M : Mem) : g_X1_markParts_0 n a0 M = T_X1_markParts_0 (fun c l M => lp (st_X1_markParts n) (c, l, M)) (fun v M => some (v, M)) none n a0 M := (lp_eq _ _).trans (n_X1_markParts_0 (lpK (st_X1_markParts n)) (fun c l M => some (.inl (c, l, M))) (fun v M => some (.inr (v, M))) none n a0 M)
noncomputable abbrev g_X1_markParts_9 (n : Nat) (a0 : Nat) (x1 : Int32) (x2 : Int32) (M : Mem) : Option (Int32 × Mem) := lp (st_X1_markParts n) (9, [.ref a0, .int x1, .int x2], M)
set_option maxHeartbeats 4000000 in
set_option maxRecDepth 100000 in
theorem ge_X1_markParts_9 (n : Nat) (a0 : Nat) (x1 : Int32) (x2 : Int32) (M : Mem) : g_X1_markParts_9 n a0 x1 x2 M = T_X1_markParts_9 (fun c l M => lp (st_X1_markParts n) (c, l, M)) (fun v M => some (v, M)) none n a0 x1 x2 M := (lp_eq _ _).trans (n_X1_markParts_9 (lpK (st_X1_markParts n)) (fun c l M => some (.inl (c, l, M))) (fun v M => some (.inr (v, M))) none n a0 x1 x2 M)
noncomputable def b_X1_markParts (n : Nat) (a0 : Nat) (M : Mem) : Option (Int32 × Mem) := g_X1_markParts_0 n a0 M
set_option maxHeartbeats 4000000 in
set_option maxRecDepth 100000 in
theorem sb_X1_markParts {X : Nat × (Nat → Int32)} {al : Bool} {n : Nat} {a0 : Nat} {M : Mem} {v : Int32} {M1 : Mem} (h : b_X1_markParts n a0 M = some (v, M1)) : AE yX1_markParts cX1_markParts 3 (some .int) al n X [.ref a0] M (some (.int v)) M1 := by
  refine AM.of false (by decide +kernel) (by intro h; cases h) (Nat.le_of_ble_eq_true rfl) ?_
  refine lp_snd (P := fun s r => PW_X1_markParts X al n (fun v M2 => v = (some (.int r.1)) ∧ M2 = r.2) s.1 s.2.1 s.2.2) ?_ h
  clear h
  rintro ⟨c, l, M⟩ r h
  unfold st_X1_markParts at h
  rcases ite_p h with ⟨e, h⟩ | ⟨e, h⟩
  · replace e : c = 0 := e
    subst e
    obtain ⟨a0, tt0, e, h⟩ := vR_p id h
    replace e : l = _ := e
    subst e
    obtain ⟨e, h⟩ := vE_p id h
    replace e : tt0 = [] := e
    subst e
    exact w_X1_markParts_0 (J := fun c l M => PW_X1_markParts X al n (fun v M2 => v = (some (.int r.1)) ∧ M2 = r.2) c l M) (R := fun v M => (v, M) = r) (fun _ _ _ h => h) (fun v M h => by cases h; exact ⟨rfl, rfl⟩) ((n_X1_markParts_0 (lpP (fun (s : Sg) (r : Int32 × Mem) => PW_X1_markParts X al n (fun v M2 => v = (some (.int r.1)) ∧ M2 = r.2) s.1 s.2.1 s.2.2) r) (fun c l M => some (.inl (c, l, M))) (fun v M => some (.inr (v, M))) none n a0 M).mp h)
  rcases ite_p h with ⟨e, h⟩ | ⟨e, h⟩
  · replace e : c = 9 := e
    subst e
    obtain ⟨a0, tt0, e, h⟩ := vR_p id h
    replace e : l = _ := e
    subst e
    obtain ⟨x1, tt1, e, h⟩ := vI_p id h
    replace e : tt0 = _ := e
    subst e
    obtain ⟨x2, tt2, e, h⟩ := vI_p id h
    replace e : tt1 = _ := e
    subst e
    obtain ⟨e, h⟩ := vE_p id h
    replace e : tt2 = [] := e
    subst e
    exact w_X1_markParts_9 (J := fun c l M => PW_X1_markParts X al n (fun v M2 => v = (some (.int r.1)) ∧ M2 = r.2) c l M) (R := fun v M => (v, M) = r) (fun _ _ _ h => h) (fun v M h => by cases h; exact ⟨rfl, rfl⟩) ((n_X1_markParts_9 (lpP (fun (s : Sg) (r : Int32 × Mem) => PW_X1_markParts X al n (fun v M2 => v = (some (.int r.1)) ∧ M2 = r.2) s.1 s.2.1 s.2.2) r) (fun c l M => some (.inl (c, l, M))) (fun v M => some (.inr (v, M))) none n a0 x1 x2 M).mp h)
  · exact h.elim

noncomputable abbrev f_X1_markParts := b_X1_markParts
theorem s_X1_markParts {X : Nat × (Nat → Int32)} {al : Bool} {n : Nat} {a0 : Nat} {M : Mem} {v : Int32} {M1 : Mem} (h : f_X1_markParts n a0 M = some (v, M1)) : AE yX1_markParts cX1_markParts 3 (some .int) al n X [.ref a0] M (some (.int v)) M1 := sb_X1_markParts h
def ix_X3_markTypes (c : Nat) : List Nat := if c = 0 then [0] else if c = 4 then [0, 1, 2] else []
def PW_X3_markTypes (X : Nat × (Nat → Int32)) (al : Bool) (n : Nat) (Q : Option Value → Mem → Prop) (c : Nat) (l : List Value) (M : Mem) : Prop := AW X (RX3, cX3_markTypes, 3, (some .int), false, al, n) 0 0 c (List.zip (ix_X3_markTypes c) l) (l.drop (ix_X3_markTypes c).length) M Q
set_option maxHeartbeats 4000000 in
set_option maxRecDepth 100000 in
noncomputable def T_X3_markTypes_0.{u} {α : Sort u} (J : Nat → List Value → Mem → α) (R : Int32 → Mem → α) (N : α) (n : Nat) (a0 : Nat) (M : Mem) : α := J 4 [.ref a0, .int 0, .int 0] M
set_option maxHeartbeats 4000000 in
set_option maxRecDepth 100000 in
theorem n_X3_markTypes_0.{u, v} {α : Sort u} {β : Sort v} (h : α → β) (J : Nat → List Value → Mem → α) (R : Int32 → Mem → α) (N : α) (n : Nat) (a0 : Nat) (M : Mem) : h (T_X3_markTypes_0 J R N n a0 M) = T_X3_markTypes_0 (fun c l M => h (J c l M)) (fun v M => h (R v M)) (h N) n a0 M := by
  simp only [T_X3_markTypes_0, nat_ite h, nat_gd h, nat_bnd h, nat_bnd2 h]
set_option maxHeartbeats 4000000 in
set_option maxRecDepth 100000 in
theorem w_X3_markTypes_0 {X : Nat × (Nat → Int32)} {al : Bool} {n : Nat} {Q : Option Value → Mem → Prop} {J : Nat → List Value → Mem → Prop} (hJ : ∀ c l M, J c l M → PW_X3_markTypes X al n Q c l M) {R : Int32 → Mem → Prop} (hR : ∀ v M, R v M → Q (some (.int v)) M) {a0 : Nat} {M : Mem} (h : T_X3_markTypes_0 J R False n a0 M) : AW X (RX3, cX3_markTypes, 3, (some .int), false, al, n) 0 0 0 [(0, .ref a0)] [] M Q := by
  unfold T_X3_markTypes_0 at h
  refine a_iconst (v := 0) dX3_markTypes_0 (by decide) ?_
  refine a_istore_n dX3_markTypes_1 rfl (Nat.le_of_ble_eq_true rfl) (lv2 := [(1, .int 0), (0, .ref a0)]) rfl ?_
  refine a_iconst (v := 0) dX3_markTypes_2 (by decide) ?_
  refine a_istore_n dX3_markTypes_3 rfl (Nat.le_of_ble_eq_true rfl) (lv2 := [(2, .int 0), (1, .int 0), (0, .ref a0)]) rfl ?_
  exact a_lv (lv2 := [(0, .ref a0), (1, .int 0), (2, .int 0)]) (fa_cons rfl (fa_cons rfl (fa_cons rfl fa_nil))) (hJ _ _ _ h)
set_option maxHeartbeats 4000000 in
set_option maxRecDepth 100000 in
noncomputable def T_X3_markTypes_4.{u} {α : Sort u} (J : Nat → List Value → Mem → α) (R : Int32 → Mem → α) (N : α) (n : Nat) (a0 : Nat) (x1 : Int32) (x2 : Int32) (M : Mem) : α := gd (fO M a0 3) N (bnd (M.2.2.2.2 a0 2) N (fun r3 => gd (fO M r3 9) N (if (M.2.2.1 r3 2) ≤ x2 then R x1 M else bnd (M.2.2.2.2 a0 0) N (fun r8 => bnd2 (cal n (fun n => f_X3_typeOf n a0 x2 M)) N (fun v10 M11 => gd (fO M11 r8 1) N (bnd2 (cal n (fun n => f_X1_mark n r8 v10 M11)) N (fun v17 M18 => if v17 = 0 then J 4 [.ref a0, .int x1, .int (x2 + 1)] M18 else J 4 [.ref a0, .int (x1 + 1), .int (x2 + 1)] M18)))))))
set_option maxHeartbeats 4000000 in
set_option maxRecDepth 100000 in
theorem n_X3_markTypes_4.{u, v} {α : Sort u} {β : Sort v} (h : α → β) (J : Nat → List Value → Mem → α) (R : Int32 → Mem → α) (N : α) (n : Nat) (a0 : Nat) (x1 : Int32) (x2 : Int32) (M : Mem) : h (T_X3_markTypes_4 J R N n a0 x1 x2 M) = T_X3_markTypes_4 (fun c l M => h (J c l M)) (fun v M => h (R v M)) (h N) n a0 x1 x2 M := by
  simp only [T_X3_markTypes_4, nat_ite h, nat_gd h, nat_bnd h, nat_bnd2 h]
set_option maxHeartbeats 4000000 in
set_option maxRecDepth 100000 in
theorem w_X3_markTypes_4 {X : Nat × (Nat → Int32)} {al : Bool} {n : Nat} {Q : Option Value → Mem → Prop} {J : Nat → List Value → Mem → Prop} (hJ : ∀ c l M, J c l M → PW_X3_markTypes X al n Q c l M) {R : Int32 → Mem → Prop} (hR : ∀ v M, R v M → Q (some (.int v)) M) {a0 : Nat} {x1 : Int32} {x2 : Int32} {M : Mem} (h : T_X3_markTypes_4 J R False n a0 x1 x2 M) : AW X (RX3, cX3_markTypes, 3, (some .int), false, al, n) 0 0 4 [(0, .ref a0), (1, .int x1), (2, .int x2)] [] M Q := by
  unfold T_X3_markTypes_4 at h
  refine a_iload_n dX3_markTypes_4 rfl rfl ?_
  refine a_aload_n dX3_markTypes_5 rfl rfl ?_
  obtain ⟨⟨ga1, gs2⟩, h⟩ := gd_t h
  obtain ⟨r3, e4, h⟩ := bnd_t h
  refine a_get (v := .ref r3) dX3_markTypes_6 fl_3_50 ga1 gs2 (gvR e4 rfl) ?_
  obtain ⟨⟨ga5, gs6⟩, h⟩ := gd_t h
  refine a_getN (v := .int (M.2.2.1 r3 2)) dX3_markTypes_9 fn_3_54 ga5 gs6 rfl ?_
  refine a_icmp_ge 39 dX3_markTypes_12 (by decide) (fun c7 => ?_) (fun c7 => ?_)
  · replace h := ite_t c7 h
    refine a_iload_n dX3_markTypes_39 rfl rfl ?_
    exact a_iret dX3_markTypes_40 rfl (hR _ _ h)
  · replace h := ite_f c7 h
    refine a_aload_n dX3_markTypes_15 rfl rfl ?_
    obtain ⟨r8, e9, h⟩ := bnd_t h
    refine a_get (v := .ref r8) dX3_markTypes_16 fl_3_39 ga1 gs2 (gvR e9 rfl) ?_
    refine a_aload_n dX3_markTypes_19 rfl rfl ?_
    refine a_iload_n dX3_markTypes_20 rfl rfl ?_
    obtain ⟨v10, M11, e12, h⟩ := bnd2_t h
    obtain ⟨n13, en14, e12⟩ := cal_t e12
    refine e_callV (As := [.int x2]) (st := [.ref r8]) (a := a0) (ci := 3) false dX3_markTypes_21 mw_X3_typeOf (Or.inl ⟨rfl, ml_X3_113⟩) im_X3_typeOf se_X3_typeOf (by decide) ga1 gs2 rfl (Nat.le_of_ble_eq_true rfl) en14 (s_X3_typeOf e12) ?_
    obtain ⟨⟨ga15, gs16⟩, h⟩ := gd_t h
    obtain ⟨v17, M18, e19, h⟩ := bnd2_t h
    obtain ⟨n20, en21, e19⟩ := cal_t e19
    refine e_callV (As := [.int v10]) (st := []) (a := r8) (ci := 1) false dX3_markTypes_24 mw_X1_mark (Or.inl ⟨rfl, ml_X3_148⟩) im_X1_mark se_X1_mark (by decide) ga15 gs16 rfl (Nat.le_of_ble_eq_true rfl) en21 (s_X1_mark e19) ?_
    refine a_if_eq 33 dX3_markTypes_27 (by decide) (fun c22 => ?_) (fun c22 => ?_)
    · replace h := ite_t c22 h
      refine a_iinc (v := (x2 + 1)) dX3_markTypes_33 rfl (by first | rfl | decide) (Nat.le_of_ble_eq_true rfl) (lv2 := [(2, .int (x2 + 1)), (0, .ref a0), (1, .int x1)]) rfl ?_
      refine a_goto 4 dX3_markTypes_36 (by decide) ?_
      exact a_lv (lv2 := [(0, .ref a0), (1, .int x1), (2, .int (x2 + 1))]) (fa_cons rfl (fa_cons rfl (fa_cons rfl fa_nil))) (hJ _ _ _ h)
    · replace h := ite_f c22 h
      refine a_iinc (v := (x1 + 1)) dX3_markTypes_30 rfl (by first | rfl | decide) (Nat.le_of_ble_eq_true rfl) (lv2 := [(1, .int (x1 + 1)), (0, .ref a0), (2, .int x2)]) rfl ?_
      refine a_iinc (v := (x2 + 1)) dX3_markTypes_33 rfl (by first | rfl | decide) (Nat.le_of_ble_eq_true rfl) (lv2 := [(2, .int (x2 + 1)), (1, .int (x1 + 1)), (0, .ref a0)]) rfl ?_
      refine a_goto 4 dX3_markTypes_36 (by decide) ?_
      exact a_lv (lv2 := [(0, .ref a0), (1, .int (x1 + 1)), (2, .int (x2 + 1))]) (fa_cons rfl (fa_cons rfl (fa_cons rfl fa_nil))) (hJ _ _ _ h)
set_option maxHeartbeats 4000000 in
set_option maxRecDepth 100000 in
noncomputable def st_X3_markTypes (n : Nat) (s : Sg) : Option (Sg ⊕ (Int32 × Mem)) := if s.1 = 0 then vR s.2.1 none (fun a0 t => vE t none (T_X3_markTypes_0 (fun c l M => some (.inl (c, l, M))) (fun v M => some (.inr (v, M))) none n a0 s.2.2)) else if s.1 = 4 then vR s.2.1 none (fun a0 t => vI t none (fun x1 t => vI t none (fun x2 t => vE t none (T_X3_markTypes_4 (fun c l M => some (.inl (c, l, M))) (fun v M => some (.inr (v, M))) none n a0 x1 x2 s.2.2)))) else none
noncomputable abbrev g_X3_markTypes_0 (n : Nat) (a0 : Nat) (M : Mem) : Option (Int32 × Mem) := lp (st_X3_markTypes n) (0, [.ref a0], M)
set_option maxHeartbeats 4000000 in
set_option maxRecDepth 100000 in
theorem ge_X3_markTypes_0 (n : Nat) (a0 : Nat) (M : Mem) : g_X3_markTypes_0 n a0 M = T_X3_markTypes_0 (fun c l M => lp (st_X3_markTypes n) (c, l, M)) (fun v M => some (v, M)) none n a0 M := (lp_eq _ _).trans (n_X3_markTypes_0 (lpK (st_X3_markTypes n)) (fun c l M => some (.inl (c, l, M))) (fun v M => some (.inr (v, M))) none n a0 M)
noncomputable abbrev g_X3_markTypes_4 (n : Nat) (a0 : Nat) (x1 : Int32) (x2 : Int32) (M : Mem) : Option (Int32 × Mem) := lp (st_X3_markTypes n) (4, [.ref a0, .int x1, .int x2], M)
set_option maxHeartbeats 4000000 in
set_option maxRecDepth 100000 in
theorem ge_X3_markTypes_4 (n : Nat) (a0 : Nat) (x1 : Int32) (x2 : Int32) (M : Mem) : g_X3_markTypes_4 n a0 x1 x2 M = T_X3_markTypes_4 (fun c l M => lp (st_X3_markTypes n) (c, l, M)) (fun v M => some (v, M)) none n a0 x1 x2 M := (lp_eq _ _).trans (n_X3_markTypes_4 (lpK (st_X3_markTypes n)) (fun c l M => some (.inl (c, l, M))) (fun v M => some (.inr (v, M))) none n a0 x1 x2 M)
noncomputable def b_X3_markTypes (n : Nat) (a0 : Nat) (M : Mem) : Option (Int32 × Mem) := g_X3_markTypes_0 n a0 M
set_option maxHeartbeats 4000000 in
set_option maxRecDepth 100000 in
theorem sb_X3_markTypes {X : Nat × (Nat → Int32)} {al : Bool} {n : Nat} {a0 : Nat} {M : Mem} {v : Int32} {M1 : Mem} (h : b_X3_markTypes n a0 M = some (v, M1)) : AE yX3_markTypes cX3_markTypes 3 (some .int) al n X [.ref a0] M (some (.int v)) M1 := by
  refine AM.of false (by decide +kernel) (by intro h; cases h) (Nat.le_of_ble_eq_true rfl) ?_
  refine lp_snd (P := fun s r => PW_X3_markTypes X al n (fun v M2 => v = (some (.int r.1)) ∧ M2 = r.2) s.1 s.2.1 s.2.2) ?_ h
  clear h
  rintro ⟨c, l, M⟩ r h
  unfold st_X3_markTypes at h
  rcases ite_p h with ⟨e, h⟩ | ⟨e, h⟩
  · replace e : c = 0 := e
    subst e
    obtain ⟨a0, tt0, e, h⟩ := vR_p id h
    replace e : l = _ := e
    subst e
    obtain ⟨e, h⟩ := vE_p id h
    replace e : tt0 = [] := e
    subst e
    exact w_X3_markTypes_0 (J := fun c l M => PW_X3_markTypes X al n (fun v M2 => v = (some (.int r.1)) ∧ M2 = r.2) c l M) (R := fun v M => (v, M) = r) (fun _ _ _ h => h) (fun v M h => by cases h; exact ⟨rfl, rfl⟩) ((n_X3_markTypes_0 (lpP (fun (s : Sg) (r : Int32 × Mem) => PW_X3_markTypes X al n (fun v M2 => v = (some (.int r.1)) ∧ M2 = r.2) s.1 s.2.1 s.2.2) r) (fun c l M => some (.inl (c, l, M))) (fun v M => some (.inr (v, M))) none n a0 M).mp h)
  rcases ite_p h with ⟨e, h⟩ | ⟨e, h⟩
  · replace e : c = 4 := e
    subst e
    obtain ⟨a0, tt0, e, h⟩ := vR_p id h
    replace e : l = _ := e
    subst e
    obtain ⟨x1, tt1, e, h⟩ := vI_p id h
    replace e : tt0 = _ := e
    subst e
    obtain ⟨x2, tt2, e, h⟩ := vI_p id h
    replace e : tt1 = _ := e
    subst e
    obtain ⟨e, h⟩ := vE_p id h
    replace e : tt2 = [] := e
    subst e
    exact w_X3_markTypes_4 (J := fun c l M => PW_X3_markTypes X al n (fun v M2 => v = (some (.int r.1)) ∧ M2 = r.2) c l M) (R := fun v M => (v, M) = r) (fun _ _ _ h => h) (fun v M h => by cases h; exact ⟨rfl, rfl⟩) ((n_X3_markTypes_4 (lpP (fun (s : Sg) (r : Int32 × Mem) => PW_X3_markTypes X al n (fun v M2 => v = (some (.int r.1)) ∧ M2 = r.2) s.1 s.2.1 s.2.2) r) (fun c l M => some (.inl (c, l, M))) (fun v M => some (.inr (v, M))) none n a0 x1 x2 M).mp h)
  · exact h.elim

noncomputable abbrev f_X3_markTypes := b_X3_markTypes
theorem s_X3_markTypes {X : Nat × (Nat → Int32)} {al : Bool} {n : Nat} {a0 : Nat} {M : Mem} {v : Int32} {M1 : Mem} (h : f_X3_markTypes n a0 M = some (v, M1)) : AE yX3_markTypes cX3_markTypes 3 (some .int) al n X [.ref a0] M (some (.int v)) M1 := sb_X3_markTypes h
set_option maxHeartbeats 4000000 in
set_option maxRecDepth 100000 in
noncomputable def T_X10_sizeByFormulas_0.{u} {α : Sort u} (R : Int32 → Mem → α) (N : α) (n : Nat) (a0 : Nat) (x1 : Int32) (M : Mem) : α := if x1 = 5 then gd (fO M a0 10) N (bnd (M.2.2.2.2 a0 7) N (fun r80 => gd (fO M r80 3) N (bnd2 (cal n (fun n => f_X3_typeOf n r80 0 M)) N (fun v84 M85 => gd (fO M85 a0 10) N (if v84 = (M85.2.2.1 a0 16) then R 1 M85 else R 0 M85))))) else gd (fO M a0 10) N (bnd (M.2.2.2.2 a0 2) N (fun r4 => gd (fO M r4 1) N (bnd2 (cal n (fun n => f_X1_beginMarks n r4 M)) N (fun _ M8 => if x1 = 4 then gd (fO M8 a0 10) N (bnd (M8.2.2.2.2 a0 3) N (fun r26 => bnd (M8.2.2.2.2 a0 2) N (fun r28 => gd (fO M8 r26 2) N (bnd2 (cal n (fun n => f_X2_markFormulas n r26 r28 M8)) N (fun _ M32 => gd (fO M32 a0 10) N (bnd (M32.2.2.2.2 a0 2) N (fun r38 => bnd (M32.2.2.2.2 a0 7) N (fun r40 => gd (fO M32 r40 3) N (bnd2 (cal n (fun n => f_X3_typeOf n r40 0 M32)) N (fun v44 M45 => gd (fO M45 r38 1) N (bnd2 (cal n (fun n => f_X1_mark n r38 v44 M45)) N (fun v51 M52 => gd (fO M52 a0 10) N (bnd (M52.2.2.2.2 a0 2) N (fun r58 => gd (fO M52 r58 1) N (bnd2 (cal n (fun n => f_X1_markParts n r58 M52)) N (fun v62 M63 => gd (fO M63 a0 10) N (bnd (M63.2.2.2.2 a0 7) N (fun r69 => gd (fO M63 r69 3) N (bnd2 (cal n (fun n => f_X3_markTypes n r69 M63)) N (fun v73 M74 => R v73 M74)))))))))))))))))))) else gd (fO M8 a0 10) N (bnd (M8.2.2.2.2 a0 7) N (fun r15 => gd (fO M8 r15 3) N (bnd2 (cal n (fun n => f_X3_markTypes n r15 M8)) N (fun v19 M20 => R v19 M20))))))))
set_option maxHeartbeats 4000000 in
set_option maxRecDepth 100000 in
theorem n_X10_sizeByFormulas_0.{u, v} {α : Sort u} {β : Sort v} (h : α → β) (R : Int32 → Mem → α) (N : α) (n : Nat) (a0 : Nat) (x1 : Int32) (M : Mem) : h (T_X10_sizeByFormulas_0 R N n a0 x1 M) = T_X10_sizeByFormulas_0 (fun v M => h (R v M)) (h N) n a0 x1 M := by
  simp only [T_X10_sizeByFormulas_0, nat_ite h, nat_gd h, nat_bnd h, nat_bnd2 h]
set_option maxHeartbeats 4000000 in
set_option maxRecDepth 100000 in
theorem w_X10_sizeByFormulas_0 {X : Nat × (Nat → Int32)} {al : Bool} {n : Nat} {Q : Option Value → Mem → Prop} {R : Int32 → Mem → Prop} (hR : ∀ v M, R v M → Q (some (.int v)) M) {a0 : Nat} {x1 : Int32} {M : Mem} (h : T_X10_sizeByFormulas_0 R False n a0 x1 M) : AW X (RX10, cX10_sizeByFormulas, 2, (some .int), false, al, n) 0 0 0 [(0, .ref a0), (1, .int x1)] [] M Q := by
  unfold T_X10_sizeByFormulas_0 at h
  refine a_iload_n dX10_sizeByFormulas_0 rfl rfl ?_
  refine a_iconst (v := 5) dX10_sizeByFormulas_1 (by decide) ?_
  refine a_icmp_ne 26 dX10_sizeByFormulas_2 (by decide) (fun c1 => ?_) (fun c1 => ?_)
  · replace h := ite_f c1 h
    refine a_aload_n dX10_sizeByFormulas_26 rfl rfl ?_
    obtain ⟨⟨ga2, gs3⟩, h⟩ := gd_t h
    obtain ⟨r4, e5, h⟩ := bnd_t h
    refine a_get (v := .ref r4) dX10_sizeByFormulas_27 fl_10_16 ga2 gs3 (gvR e5 rfl) ?_
    obtain ⟨⟨ga6, gs7⟩, h⟩ := gd_t h
    obtain ⟨_, M8, e9, h⟩ := bnd2_t h
    obtain ⟨n10, en11, e9⟩ := cal_t e9
    refine e_callV (As := []) (st := []) (a := r4) (ci := 1) false dX10_sizeByFormulas_30 mw_X1_beginMarks (Or.inl ⟨rfl, ml_X10_242⟩) im_X1_beginMarks se_X1_beginMarks (by decide) ga6 gs7 rfl (Nat.le_of_ble_eq_true rfl) en11 (s_X1_beginMarks e9) ?_
    refine a_iload_n dX10_sizeByFormulas_33 rfl rfl ?_
    refine a_iconst (v := 4) dX10_sizeByFormulas_34 (by decide) ?_
    refine a_icmp_ne 73 dX10_sizeByFormulas_35 (by decide) (fun c12 => ?_) (fun c12 => ?_)
    · replace h := ite_f c12 h
      refine a_aload_n dX10_sizeByFormulas_73 rfl rfl ?_
      obtain ⟨⟨ga13, gs14⟩, h⟩ := gd_t h
      obtain ⟨r15, e16, h⟩ := bnd_t h
      refine a_get (v := .ref r15) dX10_sizeByFormulas_74 fl_10_52 ga13 gs14 (gvR e16 rfl) ?_
      obtain ⟨⟨ga17, gs18⟩, h⟩ := gd_t h
      obtain ⟨v19, M20, e21, h⟩ := bnd2_t h
      obtain ⟨n22, en23, e21⟩ := cal_t e21
      refine e_callV (As := []) (st := []) (a := r15) (ci := 3) false dX10_sizeByFormulas_77 mw_X3_markTypes (Or.inl ⟨rfl, ml_X10_254⟩) im_X3_markTypes se_X3_markTypes (by decide) ga17 gs18 rfl (Nat.le_of_ble_eq_true rfl) en23 (s_X3_markTypes e21) ?_
      exact a_iret dX10_sizeByFormulas_80 rfl (hR _ _ h)
    · replace h := ite_t c12 h
      refine a_aload_n dX10_sizeByFormulas_38 rfl rfl ?_
      obtain ⟨⟨ga24, gs25⟩, h⟩ := gd_t h
      obtain ⟨r26, e27, h⟩ := bnd_t h
      refine a_get (v := .ref r26) dX10_sizeByFormulas_39 fl_10_23 ga24 gs25 (gvR e27 rfl) ?_
      refine a_aload_n dX10_sizeByFormulas_42 rfl rfl ?_
      obtain ⟨r28, e29, h⟩ := bnd_t h
      refine a_get (v := .ref r28) dX10_sizeByFormulas_43 fl_10_16 ga24 gs25 (gvR e29 rfl) ?_
      obtain ⟨⟨ga30, gs31⟩, h⟩ := gd_t h
      obtain ⟨_, M32, e33, h⟩ := bnd2_t h
      obtain ⟨n34, en35, e33⟩ := cal_t e33
      refine e_callV (As := [.ref r28]) (st := []) (a := r26) (ci := 2) false dX10_sizeByFormulas_46 mw_X2_markFormulas (Or.inl ⟨rfl, ml_X10_245⟩) im_X2_markFormulas se_X2_markFormulas (by decide) ga30 gs31 rfl (Nat.le_of_ble_eq_true rfl) en35 (s_X2_markFormulas e33) ?_
      refine a_aload_n dX10_sizeByFormulas_49 rfl rfl ?_
      obtain ⟨⟨ga36, gs37⟩, h⟩ := gd_t h
      obtain ⟨r38, e39, h⟩ := bnd_t h
      refine a_get (v := .ref r38) dX10_sizeByFormulas_50 fl_10_16 ga36 gs37 (gvR e39 rfl) ?_
      refine a_aload_n dX10_sizeByFormulas_53 rfl rfl ?_
      obtain ⟨r40, e41, h⟩ := bnd_t h
      refine a_get (v := .ref r40) dX10_sizeByFormulas_54 fl_10_52 ga36 gs37 (gvR e41 rfl) ?_
      refine a_iconst (v := 0) dX10_sizeByFormulas_57 (by decide) ?_
      obtain ⟨⟨ga42, gs43⟩, h⟩ := gd_t h
      obtain ⟨v44, M45, e46, h⟩ := bnd2_t h
      obtain ⟨n47, en48, e46⟩ := cal_t e46
      refine e_callV (As := [.int 0]) (st := [.ref r38]) (a := r40) (ci := 3) false dX10_sizeByFormulas_58 mw_X3_typeOf (Or.inl ⟨rfl, ml_X10_220⟩) im_X3_typeOf se_X3_typeOf (by decide) ga42 gs43 rfl (Nat.le_of_ble_eq_true rfl) en48 (s_X3_typeOf e46) ?_
      obtain ⟨⟨ga49, gs50⟩, h⟩ := gd_t h
      obtain ⟨v51, M52, e53, h⟩ := bnd2_t h
      obtain ⟨n54, en55, e53⟩ := cal_t e53
      refine e_callV (As := [.int v44]) (st := []) (a := r38) (ci := 1) false dX10_sizeByFormulas_61 mw_X1_mark (Or.inl ⟨rfl, ml_X10_248⟩) im_X1_mark se_X1_mark (by decide) ga49 gs50 rfl (Nat.le_of_ble_eq_true rfl) en55 (s_X1_mark e53) ?_
      refine a_pop dX10_sizeByFormulas_64 rfl ?_
      refine a_aload_n dX10_sizeByFormulas_65 rfl rfl ?_
      obtain ⟨⟨ga56, gs57⟩, h⟩ := gd_t h
      obtain ⟨r58, e59, h⟩ := bnd_t h
      refine a_get (v := .ref r58) dX10_sizeByFormulas_66 fl_10_16 ga56 gs57 (gvR e59 rfl) ?_
      obtain ⟨⟨ga60, gs61⟩, h⟩ := gd_t h
      obtain ⟨v62, M63, e64, h⟩ := bnd2_t h
      obtain ⟨n65, en66, e64⟩ := cal_t e64
      refine e_callV (As := []) (st := []) (a := r58) (ci := 1) false dX10_sizeByFormulas_69 mw_X1_markParts (Or.inl ⟨rfl, ml_X10_251⟩) im_X1_markParts se_X1_markParts (by decide) ga60 gs61 rfl (Nat.le_of_ble_eq_true rfl) en66 (s_X1_markParts e64) ?_
      refine a_pop dX10_sizeByFormulas_72 rfl ?_
      refine a_aload_n dX10_sizeByFormulas_73 rfl rfl ?_
      obtain ⟨⟨ga67, gs68⟩, h⟩ := gd_t h
      obtain ⟨r69, e70, h⟩ := bnd_t h
      refine a_get (v := .ref r69) dX10_sizeByFormulas_74 fl_10_52 ga67 gs68 (gvR e70 rfl) ?_
      obtain ⟨⟨ga71, gs72⟩, h⟩ := gd_t h
      obtain ⟨v73, M74, e75, h⟩ := bnd2_t h
      obtain ⟨n76, en77, e75⟩ := cal_t e75
      refine e_callV (As := []) (st := []) (a := r69) (ci := 3) false dX10_sizeByFormulas_77 mw_X3_markTypes (Or.inl ⟨rfl, ml_X10_254⟩) im_X3_markTypes se_X3_markTypes (by decide) ga71 gs72 rfl (Nat.le_of_ble_eq_true rfl) en77 (s_X3_markTypes e75) ?_
      exact a_iret dX10_sizeByFormulas_80 rfl (hR _ _ h)
  · replace h := ite_t c1 h
    refine a_aload_n dX10_sizeByFormulas_5 rfl rfl ?_
    obtain ⟨⟨ga78, gs79⟩, h⟩ := gd_t h
    obtain ⟨r80, e81, h⟩ := bnd_t h
    refine a_get (v := .ref r80) dX10_sizeByFormulas_6 fl_10_52 ga78 gs79 (gvR e81 rfl) ?_
    refine a_iconst (v := 0) dX10_sizeByFormulas_9 (by decide) ?_
    obtain ⟨⟨ga82, gs83⟩, h⟩ := gd_t h
    obtain ⟨v84, M85, e86, h⟩ := bnd2_t h
    obtain ⟨n87, en88, e86⟩ := cal_t e86
    refine e_callV (As := [.int 0]) (st := []) (a := r80) (ci := 3) false dX10_sizeByFormulas_10 mw_X3_typeOf (Or.inl ⟨rfl, ml_X10_220⟩) im_X3_typeOf se_X3_typeOf (by decide) ga82 gs83 rfl (Nat.le_of_ble_eq_true rfl) en88 (s_X3_typeOf e86) ?_
    refine a_aload_n dX10_sizeByFormulas_13 rfl rfl ?_
    obtain ⟨⟨ga89, gs90⟩, h⟩ := gd_t h
    refine a_get (v := .int (M85.2.2.1 a0 16)) dX10_sizeByFormulas_14 fl_10_105 ga89 gs90 rfl ?_
    refine a_icmp_ne 24 dX10_sizeByFormulas_17 (by decide) (fun c91 => ?_) (fun c91 => ?_)
    · replace h := ite_f c91 h
      refine a_iconst (v := 0) dX10_sizeByFormulas_24 (by decide) ?_
      exact a_iret dX10_sizeByFormulas_25 rfl (hR _ _ h)
    · replace h := ite_t c91 h
      refine a_iconst (v := 1) dX10_sizeByFormulas_20 (by decide) ?_
      refine a_goto 25 dX10_sizeByFormulas_21 (by decide) ?_
      exact a_iret dX10_sizeByFormulas_25 rfl (hR _ _ h)
noncomputable def b_X10_sizeByFormulas (n : Nat) (a0 : Nat) (x1 : Int32) (M : Mem) : Option (Int32 × Mem) := T_X10_sizeByFormulas_0 (fun v M => some (v, M)) none n a0 x1 M
set_option maxHeartbeats 4000000 in
set_option maxRecDepth 100000 in
theorem sb_X10_sizeByFormulas {X : Nat × (Nat → Int32)} {al : Bool} {n : Nat} {a0 : Nat} {x1 : Int32} {M : Mem} {v : Int32} {M1 : Mem} (h : b_X10_sizeByFormulas n a0 x1 M = some (v, M1)) : AE yX10_sizeByFormulas cX10_sizeByFormulas 2 (some .int) al n X [.ref a0, .int x1] M (some (.int v)) M1 := by
  refine AM.of false (by decide +kernel) (by intro h; cases h) (Nat.le_of_ble_eq_true rfl) ?_
  have h2 : T_X10_sizeByFormulas_0 (fun v2 M2 => some (v2, M2) = some (v, M1)) (none = some (v, M1)) n a0 x1 M := (n_X10_sizeByFormulas_0 (fun o => o = some (v, M1)) (fun v M => some (v, M)) none n a0 x1 M).mp h
  have h3 : ((none : Option (Int32 × Mem)) = some (v, M1)) = False := eq_false (by intro q; cases q)
  rw [h3] at h2
  exact w_X10_sizeByFormulas_0 (fun v2 M2 h => by cases h; exact ⟨rfl, rfl⟩) h2

noncomputable abbrev f_X10_sizeByFormulas := b_X10_sizeByFormulas
theorem s_X10_sizeByFormulas {X : Nat × (Nat → Int32)} {al : Bool} {n : Nat} {a0 : Nat} {x1 : Int32} {M : Mem} {v : Int32} {M1 : Mem} (h : f_X10_sizeByFormulas n a0 x1 M = some (v, M1)) : AE yX10_sizeByFormulas cX10_sizeByFormulas 2 (some .int) al n X [.ref a0, .int x1] M (some (.int v)) M1 := sb_X10_sizeByFormulas h
