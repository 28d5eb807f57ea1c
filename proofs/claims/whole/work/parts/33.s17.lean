/-! METHODS AS FUNCTIONS, written by wip/gen/shallow.py -/
def ix_X11_tellsHypothesis (c : Nat) : List Nat := if c = 0 then [0, 1] else if c = 15 then [0, 1, 2] else []
def PW_X11_tellsHypothesis (X : Nat × (Nat → Int32)) (al : Bool) (n : Nat) (Q : Option Value → Mem → Prop) (c : Nat) (l : List Value) (M : Mem) : Prop := AW X (RX11, cX11_tellsHypothesis, 3, none, false, al, n) 0 0 c (List.zip (ix_X11_tellsHypothesis c) l) (l.drop (ix_X11_tellsHypothesis c).length) M Q
set_option maxHeartbeats 4000000 in
set_option maxRecDepth 100000 in
noncomputable def T_X11_tellsHypothesis_0.{u} {α : Sort u} (J : Nat → List Value → Mem → α) (R : Unit → Mem → α) (N : α) (n : Nat) (a0 : Nat) (x1 : Int32) (M : Mem) : α := gd (fO M a0 11) N (if (M.2.2.1 a0 48) ≤ 0 then J 15 [.ref a0, .int x1, .int 0] M else bnd2 (cal n (fun n => f_X11_tells n a0 32 M)) N (fun _ M4 => J 15 [.ref a0, .int x1, .int 0] M4))
set_option maxHeartbeats 4000000 in
set_option maxRecDepth 100000 in
theorem n_X11_tellsHypothesis_0.{u, v} {α : Sort u} {β : Sort v} (h : α → β) (J : Nat → List Value → Mem → α) (R : Unit → Mem → α) (N : α) (n : Nat) (a0 : Nat) (x1 : Int32) (M : Mem) : h (T_X11_tellsHypothesis_0 J R N n a0 x1 M) = T_X11_tellsHypothesis_0 (fun c l M => h (J c l M)) (fun v M => h (R v M)) (h N) n a0 x1 M := by
  simp only [T_X11_tellsHypothesis_0, nat_ite h, nat_gd h, nat_bnd h, nat_bnd2 h]
set_option maxHeartbeats 4000000 in
set_option maxRecDepth 100000 in
theorem w_X11_tellsHypothesis_0 {X : Nat × (Nat → Int32)} {al : Bool} {n : Nat} {Q : Option Value → Mem → Prop} {J : Nat → List Value → Mem → Prop} (hJ : ∀ c l M, J c l M → PW_X11_tellsHypothesis X al n Q c l M) {R : Unit → Mem → Prop} (hR : ∀ v M, R v M → Q none M) {a0 : Nat} {x1 : Int32} {M : Mem} (h : T_X11_tellsHypothesis_0 J R False n a0 x1 M) : AW X (RX11, cX11_tellsHypothesis, 3, none, false, al, n) 0 0 0 [(0, .ref a0), (1, .int x1)] [] M Q := by
  unfold T_X11_tellsHypothesis_0 at h
  refine a_aload_n dX11_tellsHypothesis_0 rfl rfl ?_
  obtain ⟨⟨ga1, gs2⟩, h⟩ := gd_t h
  refine a_get (v := .int (M.2.2.1 a0 48)) dX11_tellsHypothesis_1 fl_11_361 ga1 gs2 rfl ?_
  refine a_if_le 13 dX11_tellsHypothesis_4 (by decide) (fun c3 => ?_) (fun c3 => ?_)
  · replace h := ite_t c3 h
    refine a_iconst (v := 0) dX11_tellsHypothesis_13 (by decide) ?_
    refine a_istore_n dX11_tellsHypothesis_14 rfl (Nat.le_of_ble_eq_true rfl) (lv2 := [(2, .int 0), (0, .ref a0), (1, .int x1)]) rfl ?_
    exact a_lv (lv2 := [(0, .ref a0), (1, .int x1), (2, .int 0)]) (fa_cons rfl (fa_cons rfl (fa_cons rfl fa_nil))) (hJ _ _ _ h)
  · replace h := ite_f c3 h
    refine a_aload_n dX11_tellsHypothesis_7 rfl rfl ?_
    refine a_bipush (v := 32) dX11_tellsHypothesis_8 (by decide) ?_
    obtain ⟨_, M4, e5, h⟩ := bnd2_t h
    obtain ⟨n6, en7, e5⟩ := cal_t e5
    refine e_callV (As := [.int 32]) (st := []) (a := a0) (ci := 11) false dX11_tellsHypothesis_10 mw_X11_tells (Or.inl ⟨rfl, ml_X11_370⟩) im_X11_tells se_X11_tells (by decide) ga1 gs2 rfl (Nat.le_of_ble_eq_true rfl) en7 (s_X11_tells e5) ?_
    refine a_iconst (v := 0) dX11_tellsHypothesis_13 (by decide) ?_
    refine a_istore_n dX11_tellsHypothesis_14 rfl (Nat.le_of_ble_eq_true rfl) (lv2 := [(2, .int 0), (0, .ref a0), (1, .int x1)]) rfl ?_
    exact a_lv (lv2 := [(0, .ref a0), (1, .int x1), (2, .int 0)]) (fa_cons rfl (fa_cons rfl (fa_cons rfl fa_nil))) (hJ _ _ _ h)
set_option maxHeartbeats 4000000 in
set_option maxRecDepth 100000 in
noncomputable def T_X11_tellsHypothesis_15.{u} {α : Sort u} (J : Nat → List Value → Mem → α) (R : Unit → Mem → α) (N : α) (n : Nat) (a0 : Nat) (x1 : Int32) (x2 : Int32) (M : Mem) : α := gd (fO M a0 11) N (bnd (M.2.2.2.2 a0 10) N (fun r3 => gd (fA M r3 1 x1) N (if (M.2.2.1 r3 (x1.toNatClampNeg)) ≤ x2 then R () M else bnd (M.2.2.2.2 a0 9) N (fun r10 => gd (fA M r10 1 ((4 * x1) + x2)) N (bnd2 (cal n (fun n => f_X11_tells n a0 (M.2.2.1 r10 (((4 * x1) + x2).toNatClampNeg)) M)) N (fun _ M16 => J 15 [.ref a0, .int x1, .int (x2 + 1)] M16))))))
set_option maxHeartbeats 4000000 in
set_option maxRecDepth 100000 in
theorem n_X11_tellsHypothesis_15.{u, v} {α : Sort u} {β : Sort v} (h : α → β) (J : Nat → List Value → Mem → α) (R : Unit → Mem → α) (N : α) (n : Nat) (a0 : Nat) (x1 : Int32) (x2 : Int32) (M : Mem) : h (T_X11_tellsHypothesis_15 J R N n a0 x1 x2 M) = T_X11_tellsHypothesis_15 (fun c l M => h (J c l M)) (fun v M => h (R v M)) (h N) n a0 x1 x2 M := by
  simp only [T_X11_tellsHypothesis_15, nat_ite h, nat_gd h, nat_bnd h, nat_bnd2 h]
set_option maxHeartbeats 4000000 in
set_option maxRecDepth 100000 in
theorem w_X11_tellsHypothesis_15 {X : Nat × (Nat → Int32)} {al : Bool} {n : Nat} {Q : Option Value → Mem → Prop} {J : Nat → List Value → Mem → Prop} (hJ : ∀ c l M, J c l M → PW_X11_tellsHypothesis X al n Q c l M) {R : Unit → Mem → Prop} (hR : ∀ v M, R v M → Q none M) {a0 : Nat} {x1 : Int32} {x2 : Int32} {M : Mem} (h : T_X11_tellsHypothesis_15 J R False n a0 x1 x2 M) : AW X (RX11, cX11_tellsHypothesis, 3, none, false, al, n) 0 0 15 [(0, .ref a0), (1, .int x1), (2, .int x2)] [] M Q := by
  unfold T_X11_tellsHypothesis_15 at h
  refine a_iload_n dX11_tellsHypothesis_15 rfl rfl ?_
  refine a_aload_n dX11_tellsHypothesis_16 rfl rfl ?_
  obtain ⟨⟨ga1, gs2⟩, h⟩ := gd_t h
  obtain ⟨r3, e4, h⟩ := bnd_t h
  refine a_get (v := .ref r3) dX11_tellsHypothesis_17 fl_11_35 ga1 gs2 (gvR e4 rfl) ?_
  refine a_iload_n dX11_tellsHypothesis_20 rfl rfl ?_
  obtain ⟨⟨ga5, gn6, gs7, gi8⟩, h⟩ := gd_t h
  refine a_iaload dX11_tellsHypothesis_21 ga5 gs7 gi8 ?_
  refine a_icmp_ge 45 dX11_tellsHypothesis_22 (by decide) (fun c9 => ?_) (fun c9 => ?_)
  · replace h := ite_t c9 h
    exact a_vret dX11_tellsHypothesis_45 rfl (hR _ _ h)
  · replace h := ite_f c9 h
    refine a_aload_n dX11_tellsHypothesis_25 rfl rfl ?_
    refine a_aload_n dX11_tellsHypothesis_26 rfl rfl ?_
    obtain ⟨r10, e11, h⟩ := bnd_t h
    refine a_get (v := .ref r10) dX11_tellsHypothesis_27 fl_11_32 ga1 gs2 (gvR e11 rfl) ?_
    refine a_iconst (v := 4) dX11_tellsHypothesis_30 (by decide) ?_
    refine a_iload_n dX11_tellsHypothesis_31 rfl rfl ?_
    refine a_imul dX11_tellsHypothesis_32 ?_
    refine a_iload_n dX11_tellsHypothesis_33 rfl rfl ?_
    refine a_iadd dX11_tellsHypothesis_34 ?_
    obtain ⟨⟨ga12, gn13, gs14, gi15⟩, h⟩ := gd_t h
    refine a_iaload dX11_tellsHypothesis_35 ga12 gs14 gi15 ?_
    obtain ⟨_, M16, e17, h⟩ := bnd2_t h
    obtain ⟨n18, en19, e17⟩ := cal_t e17
    refine e_callV (As := [.int (M.2.2.1 r10 (((4 * x1) + x2).toNatClampNeg))]) (st := []) (a := a0) (ci := 11) false dX11_tellsHypothesis_36 mw_X11_tells (Or.inl ⟨rfl, ml_X11_370⟩) im_X11_tells se_X11_tells (by decide) ga1 gs2 rfl (Nat.le_of_ble_eq_true rfl) en19 (s_X11_tells e17) ?_
    refine a_iinc (v := (x2 + 1)) dX11_tellsHypothesis_39 rfl (by first | rfl | decide) (Nat.le_of_ble_eq_true rfl) (lv2 := [(2, .int (x2 + 1)), (0, .ref a0), (1, .int x1)]) rfl ?_
    refine a_goto 15 dX11_tellsHypothesis_42 (by decide) ?_
    exact a_lv (lv2 := [(0, .ref a0), (1, .int x1), (2, .int (x2 + 1))]) (fa_cons rfl (fa_cons rfl (fa_cons rfl fa_nil))) (hJ _ _ _ h)
set_option maxHeartbeats 4000000 in
set_option maxRecDepth 100000 in
noncomputable def st_X11_tellsHypothesis (n : Nat) (s : Sg) : Option (Sg ⊕ (Unit × Mem)) := if s.1 = 0 then vR s.2.1 none (fun a0 t => vI t none (fun x1 t => vE t none (T_X11_tellsHypothesis_0 (fun c l M => some (.inl (c, l, M))) (fun v M => some (.inr (v, M))) none n a0 x1 s.2.2))) else if s.1 = 15 then vR s.2.1 none (fun a0 t => vI t none (fun x1 t => vI t none (fun x2 t => vE t none (T_X11_tellsHypothesis_15 (fun c l M => some (.inl (c, l, M))) (fun v M => some (.inr (v, M))) none n a0 x1 x2 s.2.2)))) else none
noncomputable abbrev g_X11_tellsHypothesis_0 (n : Nat) (a0 : Nat) (x1 : Int32) (M : Mem) : Option (Unit × Mem) := lp (st_X11_tellsHypothesis n) (0, [.ref a0, .int x1], M)
set_option maxHeartbeats 4000000 in
set_option maxRecDepth 100000 in
theorem ge_X11_tellsHypothesis_0 (n : Nat) (a0 : Nat) (x1 : Int32) (M : Mem) : g_X11_tellsHypothesis_0 n a0 x1 M = T_X11_tellsHypothesis_0 (fun c l M => lp (st_X11_tellsHypothesis n) (c, l, M)) (fun v M => some (v, M)) none n a0 x1 M := (lp_eq _ _).trans (n_X11_tellsHypothesis_0 (lpK (st_X11_tellsHypothesis n)) (fun c l M => some (.inl (c, l, M))) (fun v M => some (.inr (v, M))) none n a0 x1 M)
noncomputable abbrev g_X11_tellsHypothesis_15 (n : Nat) (a0 : Nat) (x1 : Int32) (x2 : Int32) (M : Mem) : Option (Unit × Mem) := lp (st_X11_tellsHypothesis n) (15, [.ref a0, .int x1, .int x2], M)
set_option maxHeartbeats 4000000 in
set_option maxRecDepth 100000 in
theorem ge_X11_tellsHypothesis_15 (n : Nat) (a0 : Nat) (x1 : Int32) (x2 : Int32) (M : Mem) : g_X11_tellsHypothesis_15 n a0 x1 x2 M = T_X11_tellsHypothesis_15 (fun c l M => lp (st_X11_tellsHypothesis n) (c, l, M)) (fun v M => some (v, M)) none n a0 x1 x2 M := (lp_eq _ _).trans (n_X11_tellsHypothesis_15 (lpK (st_X11_tellsHypothesis n)) (fun c l M => some (.inl (c, l, M))) (fun v M => some (.inr (v, M))) none n a0 x1 x2 M)
noncomputable def b_X11_tellsHypothesis (n : Nat) (a0 : Nat) (x1 : Int32) (M : Mem) : Option (Unit × Mem) := g_X11_tellsHypothesis_0 n a0 x1 M
set_option maxHeartbeats 4000000 in
set_option maxRecDepth 100000 in
theorem sb_X11_tellsHypothesis {X : Nat × (Nat → Int32)} {al : Bool} {n : Nat} {a0 : Nat} {x1 : Int32} {M : Mem} {v : Unit} {M1 : Mem} (h : b_X11_tellsHypothesis n a0 x1 M = some (v, M1)) : AE yX11_tellsHypothesis cX11_tellsHypothesis 3 none al n X [.ref a0, .int x1] M none M1 := by
  refine AM.of false (by decide +kernel) (by intro h; cases h) (Nat.le_of_ble_eq_true rfl) ?_
  refine lp_snd (P := fun s r => PW_X11_tellsHypothesis X al n (fun v M2 => v = none ∧ M2 = r.2) s.1 s.2.1 s.2.2) ?_ h
  clear h
  rintro ⟨c, l, M⟩ r h
  unfold st_X11_tellsHypothesis at h
  rcases ite_p h with ⟨e, h⟩ | ⟨e, h⟩
  · replace e : c = 0 := e
    subst e
    obtain ⟨a0, tt0, e, h⟩ := vR_p id h
    replace e : l = _ := e
    subst e
    obtain ⟨x1, tt1, e, h⟩ := vI_p id h
    replace e : tt0 = _ := e
    subst e
    obtain ⟨e, h⟩ := vE_p id h
    replace e : tt1 = [] := e
    subst e
    exact w_X11_tellsHypothesis_0 (J := fun c l M => PW_X11_tellsHypothesis X al n (fun v M2 => v = none ∧ M2 = r.2) c l M) (R := fun v M => (v, M) = r) (fun _ _ _ h => h) (fun v M h => by cases h; exact ⟨rfl, rfl⟩) ((n_X11_tellsHypothesis_0 (lpP (fun (s : Sg) (r : Unit × Mem) => PW_X11_tellsHypothesis X al n (fun v M2 => v = none ∧ M2 = r.2) s.1 s.2.1 s.2.2) r) (fun c l M => some (.inl (c, l, M))) (fun v M => some (.inr (v, M))) none n a0 x1 M).mp h)
  rcases ite_p h with ⟨e, h⟩ | ⟨e, h⟩
  · replace e : c = 15 := e
    subst e
    obtain ⟨a0, tt0, e, h⟩ := vR_p id h
    replace e : l = _ := e
    subst e
    obtain ⟨x1, tt1, e, h⟩ := vI_p id h
    replace e : tt0 = _ := e
    subst e
    obtain ⟨x2, tt2, e, h⟩ := vI_p id h
    replace e : tt1 = _ := e
    subst e
    obtain ⟨e, h⟩ := vE_p id h
    replace e : tt2 = [] := e
    subst e
    exact w_X11_tellsHypothesis_15 (J := fun c l M => PW_X11_tellsHypothesis X al n (fun v M2 => v = none ∧ M2 = r.2) c l M) (R := fun v M => (v, M) = r) (fun _ _ _ h => h) (fun v M h => by cases h; exact ⟨rfl, rfl⟩) ((n_X11_tellsHypothesis_15 (lpP (fun (s : Sg) (r : Unit × Mem) => PW_X11_tellsHypothesis X al n (fun v M2 => v = none ∧ M2 = r.2) s.1 s.2.1 s.2.2) r) (fun c l M => some (.inl (c, l, M))) (fun v M => some (.inr (v, M))) none n a0 x1 x2 M).mp h)
  · exact h.elim

noncomputable abbrev f_X11_tellsHypothesis := b_X11_tellsHypothesis
theorem s_X11_tellsHypothesis {X : Nat × (Nat → Int32)} {al : Bool} {n : Nat} {a0 : Nat} {x1 : Int32} {M : Mem} {v : Unit} {M1 : Mem} (h : f_X11_tellsHypothesis n a0 x1 M = some (v, M1)) : AE yX11_tellsHypothesis cX11_tellsHypothesis 3 none al n X [.ref a0, .int x1] M none M1 := sb_X11_tellsHypothesis h
def ix_X11_tellsWord (c : Nat) : List Nat := if c = 0 then [0, 1] else if c = 17 then [0, 1, 2, 3] else if c = 42 then [0, 2] else []
def PW_X11_tellsWord (X : Nat × (Nat → Int32)) (al : Bool) (n : Nat) (Q : Option Value → Mem → Prop) (c : Nat) (l : List Value) (M : Mem) : Prop := AW X (RX11, cX11_tellsWord, 4, none, false, al, n) 0 0 c (List.zip (ix_X11_tellsWord c) l) (l.drop (ix_X11_tellsWord c).length) M Q
set_option maxHeartbeats 4000000 in
set_option maxRecDepth 100000 in
noncomputable def T_X11_tellsWord_0.{u} {α : Sort u} (J : Nat → List Value → Mem → α) (R : Unit → Mem → α) (N : α) (n : Nat) (a0 : Nat) (x1 : Int32) (M : Mem) : α := gd (fO M a0 11) N (if (M.2.2.1 a0 48) ≤ 0 then J 17 [.ref a0, .int x1, .int 0, .int 0] M else bnd2 (cal n (fun n => f_X11_tells n a0 32 M)) N (fun _ M4 => J 17 [.ref a0, .int x1, .int 0, .int 0] M4))
set_option maxHeartbeats 4000000 in
set_option maxRecDepth 100000 in
theorem n_X11_tellsWord_0.{u, v} {α : Sort u} {β : Sort v} (h : α → β) (J : Nat → List Value → Mem → α) (R : Unit → Mem → α) (N : α) (n : Nat) (a0 : Nat) (x1 : Int32) (M : Mem) : h (T_X11_tellsWord_0 J R N n a0 x1 M) = T_X11_tellsWord_0 (fun c l M => h (J c l M)) (fun v M => h (R v M)) (h N) n a0 x1 M := by
  simp only [T_X11_tellsWord_0, nat_ite h, nat_gd h, nat_bnd h, nat_bnd2 h]
set_option maxHeartbeats 4000000 in
set_option maxRecDepth 100000 in
theorem w_X11_tellsWord_0 {X : Nat × (Nat → Int32)} {al : Bool} {n : Nat} {Q : Option Value → Mem → Prop} {J : Nat → List Value → Mem → Prop} (hJ : ∀ c l M, J c l M → PW_X11_tellsWord X al n Q c l M) {R : Unit → Mem → Prop} (hR : ∀ v M, R v M → Q none M) {a0 : Nat} {x1 : Int32} {M : Mem} (h : T_X11_tellsWord_0 J R False n a0 x1 M) : AW X (RX11, cX11_tellsWord, 4, none, false, al, n) 0 0 0 [(0, .ref a0), (1, .int x1)] [] M Q := by
  unfold T_X11_tellsWord_0 at h
  refine a_aload_n dX11_tellsWord_0 rfl rfl ?_
  obtain ⟨⟨ga1, gs2⟩, h⟩ := gd_t h
  refine a_get (v := .int (M.2.2.1 a0 48)) dX11_tellsWord_1 fl_11_361 ga1 gs2 rfl ?_
  refine a_if_le 13 dX11_tellsWord_4 (by decide) (fun c3 => ?_) (fun c3 => ?_)
  · replace h := ite_t c3 h
    refine a_iconst (v := 0) dX11_tellsWord_13 (by decide) ?_
    refine a_istore_n dX11_tellsWord_14 rfl (Nat.le_of_ble_eq_true rfl) (lv2 := [(2, .int 0), (0, .ref a0), (1, .int x1)]) rfl ?_
    refine a_iconst (v := 0) dX11_tellsWord_15 (by decide) ?_
    refine a_istore_n dX11_tellsWord_16 rfl (Nat.le_of_ble_eq_true rfl) (lv2 := [(3, .int 0), (2, .int 0), (0, .ref a0), (1, .int x1)]) rfl ?_
    exact a_lv (lv2 := [(0, .ref a0), (1, .int x1), (2, .int 0), (3, .int 0)]) (fa_cons rfl (fa_cons rfl (fa_cons rfl (fa_cons rfl fa_nil)))) (hJ _ _ _ h)
  · replace h := ite_f c3 h
    refine a_aload_n dX11_tellsWord_7 rfl rfl ?_
    refine a_bipush (v := 32) dX11_tellsWord_8 (by decide) ?_
    obtain ⟨_, M4, e5, h⟩ := bnd2_t h
    obtain ⟨n6, en7, e5⟩ := cal_t e5
    refine e_callV (As := [.int 32]) (st := []) (a := a0) (ci := 11) false dX11_tellsWord_10 mw_X11_tells (Or.inl ⟨rfl, ml_X11_370⟩) im_X11_tells se_X11_tells (by decide) ga1 gs2 rfl (Nat.le_of_ble_eq_true rfl) en7 (s_X11_tells e5) ?_
    refine a_iconst (v := 0) dX11_tellsWord_13 (by decide) ?_
    refine a_istore_n dX11_tellsWord_14 rfl (Nat.le_of_ble_eq_true rfl) (lv2 := [(2, .int 0), (0, .ref a0), (1, .int x1)]) rfl ?_
    refine a_iconst (v := 0) dX11_tellsWord_15 (by decide) ?_
    refine a_istore_n dX11_tellsWord_16 rfl (Nat.le_of_ble_eq_true rfl) (lv2 := [(3, .int 0), (2, .int 0), (0, .ref a0), (1, .int x1)]) rfl ?_
    exact a_lv (lv2 := [(0, .ref a0), (1, .int x1), (2, .int 0), (3, .int 0)]) (fa_cons rfl (fa_cons rfl (fa_cons rfl (fa_cons rfl fa_nil)))) (hJ _ _ _ h)
set_option maxHeartbeats 4000000 in
set_option maxRecDepth 100000 in
noncomputable def T_X11_tellsWord_17.{u} {α : Sort u} (J : Nat → List Value → Mem → α) (R : Unit → Mem → α) (N : α) (n : Nat) (a0 : Nat) (x1 : Int32) (x2 : Int32) (x3 : Int32) (M : Mem) : α := if x1 ≤ x3 then J 42 [.ref a0, .int x2] M else gd (4 ≤ n ∧ vp_in x2 74) N (if (tch 1 x2.toNatClampNeg) = 32 then J 17 [.ref a0, .int x1, .int (x2 + 1), .int (x3 + 1)] M else J 17 [.ref a0, .int x1, .int (x2 + 1), .int x3] M)
set_option maxHeartbeats 4000000 in
set_option maxRecDepth 100000 in
theorem n_X11_tellsWord_17.{u, v} {α : Sort u} {β : Sort v} (h : α → β) (J : Nat → List Value → Mem → α) (R : Unit → Mem → α) (N : α) (n : Nat) (a0 : Nat) (x1 : Int32) (x2 : Int32) (x3 : Int32) (M : Mem) : h (T_X11_tellsWord_17 J R N n a0 x1 x2 x3 M) = T_X11_tellsWord_17 (fun c l M => h (J c l M)) (fun v M => h (R v M)) (h N) n a0 x1 x2 x3 M := by
  simp only [T_X11_tellsWord_17, nat_ite h, nat_gd h, nat_bnd h, nat_bnd2 h]
set_option maxHeartbeats 4000000 in
set_option maxRecDepth 100000 in
theorem w_X11_tellsWord_17 {X : Nat × (Nat → Int32)} {al : Bool} {n : Nat} {Q : Option Value → Mem → Prop} {J : Nat → List Value → Mem → Prop} (hJ : ∀ c l M, J c l M → PW_X11_tellsWord X al n Q c l M) {R : Unit → Mem → Prop} (hR : ∀ v M, R v M → Q none M) {a0 : Nat} {x1 : Int32} {x2 : Int32} {x3 : Int32} {M : Mem} (h : T_X11_tellsWord_17 J R False n a0 x1 x2 x3 M) : AW X (RX11, cX11_tellsWord, 4, none, false, al, n) 0 0 17 [(0, .ref a0), (1, .int x1), (2, .int x2), (3, .int x3)] [] M Q := by
  unfold T_X11_tellsWord_17 at h
  refine a_iload_n dX11_tellsWord_17 rfl rfl ?_
  refine a_iload_n dX11_tellsWord_18 rfl rfl ?_
  refine a_icmp_ge 42 dX11_tellsWord_19 (by decide) (fun c1 => ?_) (fun c1 => ?_)
  · replace h := ite_t c1 h
    exact a_lv (lv2 := [(0, .ref a0), (2, .int x2)]) (fa_cons rfl (fa_cons rfl fa_nil)) (hJ _ _ _ h)
  · replace h := ite_f c1 h
    refine a_ldcB dX11_tellsWord_22 rfl ?_
    refine a_iload_n dX11_tellsWord_24 rfl rfl ?_
    obtain ⟨⟨gf2, gi5⟩, h⟩ := gd_t h
    obtain ⟨n3, en4⟩ : ∃ k, n = k + 4 := ⟨n - 4, by omega⟩
    refine e_callT (As := [.int x2]) (st := []) (i := 1) dX11_tellsWord_25 mw_J0_charAt_5068e ml_X11_194 im_J0_charAt_5068e se_J0_charAt_5068e (by decide) rfl (Nat.le_of_ble_eq_true rfl) en4 (k_charAt1 gi5) ?_
    refine a_bipush (v := 32) dX11_tellsWord_28 (by decide) ?_
    refine a_icmp_ne 36 dX11_tellsWord_30 (by decide) (fun c6 => ?_) (fun c6 => ?_)
    · replace h := ite_f c6 h
      refine a_iinc (v := (x2 + 1)) dX11_tellsWord_36 rfl (by first | rfl | decide) (Nat.le_of_ble_eq_true rfl) (lv2 := [(2, .int (x2 + 1)), (0, .ref a0), (1, .int x1), (3, .int x3)]) rfl ?_
      refine a_goto 17 dX11_tellsWord_39 (by decide) ?_
      exact a_lv (lv2 := [(0, .ref a0), (1, .int x1), (2, .int (x2 + 1)), (3, .int x3)]) (fa_cons rfl (fa_cons rfl (fa_cons rfl (fa_cons rfl fa_nil)))) (hJ _ _ _ h)
    · replace h := ite_t c6 h
      refine a_iinc (v := (x3 + 1)) dX11_tellsWord_33 rfl (by first | rfl | decide) (Nat.le_of_ble_eq_true rfl) (lv2 := [(3, .int (x3 + 1)), (0, .ref a0), (1, .int x1), (2, .int x2)]) rfl ?_
      refine a_iinc (v := (x2 + 1)) dX11_tellsWord_36 rfl (by first | rfl | decide) (Nat.le_of_ble_eq_true rfl) (lv2 := [(2, .int (x2 + 1)), (3, .int (x3 + 1)), (0, .ref a0), (1, .int x1)]) rfl ?_
      refine a_goto 17 dX11_tellsWord_39 (by decide) ?_
      exact a_lv (lv2 := [(0, .ref a0), (1, .int x1), (2, .int (x2 + 1)), (3, .int (x3 + 1))]) (fa_cons rfl (fa_cons rfl (fa_cons rfl (fa_cons rfl fa_nil)))) (hJ _ _ _ h)
set_option maxHeartbeats 4000000 in
set_option maxRecDepth 100000 in
noncomputable def T_X11_tellsWord_42.{u} {α : Sort u} (J : Nat → List Value → Mem → α) (R : Unit → Mem → α) (N : α) (n : Nat) (a0 : Nat) (x2 : Int32) (M : Mem) : α := gd (4 ≤ n ∧ vp_in x2 74) N (if (tch 1 x2.toNatClampNeg) = 32 then R () M else gd (4 ≤ n ∧ vp_in x2 74) N (gd (fO M a0 11) N (bnd2 (cal n (fun n => f_X11_tells n a0 (tch 1 x2.toNatClampNeg) M)) N (fun _ M12 => J 42 [.ref a0, .int (x2 + 1)] M12))))
set_option maxHeartbeats 4000000 in
set_option maxRecDepth 100000 in
theorem n_X11_tellsWord_42.{u, v} {α : Sort u} {β : Sort v} (h : α → β) (J : Nat → List Value → Mem → α) (R : Unit → Mem → α) (N : α) (n : Nat) (a0 : Nat) (x2 : Int32) (M : Mem) : h (T_X11_tellsWord_42 J R N n a0 x2 M) = T_X11_tellsWord_42 (fun c l M => h (J c l M)) (fun v M => h (R v M)) (h N) n a0 x2 M := by
  simp only [T_X11_tellsWord_42, nat_ite h, nat_gd h, nat_bnd h, nat_bnd2 h]
set_option maxHeartbeats 4000000 in
set_option maxRecDepth 100000 in
theorem w_X11_tellsWord_42 {X : Nat × (Nat → Int32)} {al : Bool} {n : Nat} {Q : Option Value → Mem → Prop} {J : Nat → List Value → Mem → Prop} (hJ : ∀ c l M, J c l M → PW_X11_tellsWord X al n Q c l M) {R : Unit → Mem → Prop} (hR : ∀ v M, R v M → Q none M) {a0 : Nat} {x2 : Int32} {M : Mem} (h : T_X11_tellsWord_42 J R False n a0 x2 M) : AW X (RX11, cX11_tellsWord, 4, none, false, al, n) 0 0 42 [(0, .ref a0), (2, .int x2)] [] M Q := by
  unfold T_X11_tellsWord_42 at h
  refine a_ldcB dX11_tellsWord_42 rfl ?_
  refine a_iload_n dX11_tellsWord_44 rfl rfl ?_
  obtain ⟨⟨gf1, gi4⟩, h⟩ := gd_t h
  obtain ⟨n2, en3⟩ : ∃ k, n = k + 4 := ⟨n - 4, by omega⟩
  refine e_callT (As := [.int x2]) (st := []) (i := 1) dX11_tellsWord_45 mw_J0_charAt_5068e ml_X11_194 im_J0_charAt_5068e se_J0_charAt_5068e (by decide) rfl (Nat.le_of_ble_eq_true rfl) en3 (k_charAt1 gi4) ?_
  refine a_bipush (v := 32) dX11_tellsWord_48 (by decide) ?_
  refine a_icmp_eq 69 dX11_tellsWord_50 (by decide) (fun c5 => ?_) (fun c5 => ?_)
  · replace h := ite_t c5 h
    exact a_vret dX11_tellsWord_69 rfl (hR _ _ h)
  · replace h := ite_f c5 h
    refine a_aload_n dX11_tellsWord_53 rfl rfl ?_
    refine a_ldcB dX11_tellsWord_54 rfl ?_
    refine a_iload_n dX11_tellsWord_56 rfl rfl ?_
    obtain ⟨⟨gf6, gi9⟩, h⟩ := gd_t h
    obtain ⟨n7, en8⟩ : ∃ k, n = k + 4 := ⟨n - 4, by omega⟩
    refine e_callT (As := [.int x2]) (st := [.ref a0]) (i := 1) dX11_tellsWord_57 mw_J0_charAt_5068e ml_X11_194 im_J0_charAt_5068e se_J0_charAt_5068e (by decide) rfl (Nat.le_of_ble_eq_true rfl) en8 (k_charAt1 gi9) ?_
    obtain ⟨⟨ga10, gs11⟩, h⟩ := gd_t h
    obtain ⟨_, M12, e13, h⟩ := bnd2_t h
    obtain ⟨n14, en15, e13⟩ := cal_t e13
    refine e_callV (As := [.int (tch 1 x2.toNatClampNeg)]) (st := []) (a := a0) (ci := 11) false dX11_tellsWord_60 mw_X11_tells (Or.inl ⟨rfl, ml_X11_370⟩) im_X11_tells se_X11_tells (by decide) ga10 gs11 rfl (Nat.le_of_ble_eq_true rfl) en15 (s_X11_tells e13) ?_
    refine a_iinc (v := (x2 + 1)) dX11_tellsWord_63 rfl (by first | rfl | decide) (Nat.le_of_ble_eq_true rfl) (lv2 := [(2, .int (x2 + 1)), (0, .ref a0)]) rfl ?_
    refine a_goto 42 dX11_tellsWord_66 (by decide) ?_
    exact a_lv (lv2 := [(0, .ref a0), (2, .int (x2 + 1))]) (fa_cons rfl (fa_cons rfl fa_nil)) (hJ _ _ _ h)
set_option maxHeartbeats 4000000 in
set_option maxRecDepth 100000 in
noncomputable def st_X11_tellsWord (n : Nat) (s : Sg) : Option (Sg ⊕ (Unit × Mem)) := if s.1 = 0 then vR s.2.1 none (fun a0 t => vI t none (fun x1 t => vE t none (T_X11_tellsWord_0 (fun c l M => some (.inl (c, l, M))) (fun v M => some (.inr (v, M))) none n a0 x1 s.2.2))) else if s.1 = 17 then vR s.2.1 none (fun a0 t => vI t none (fun x1 t => vI t none (fun x2 t => vI t none (fun x3 t => vE t none (T_X11_tellsWord_17 (fun c l M => some (.inl (c, l, M))) (fun v M => some (.inr (v, M))) none n a0 x1 x2 x3 s.2.2))))) else if s.1 = 42 then vR s.2.1 none (fun a0 t => vI t none (fun x2 t => vE t none (T_X11_tellsWord_42 (fun c l M => some (.inl (c, l, M))) (fun v M => some (.inr (v, M))) none n a0 x2 s.2.2))) else none
noncomputable abbrev g_X11_tellsWord_0 (n : Nat) (a0 : Nat) (x1 : Int32) (M : Mem) : Option (Unit × Mem) := lp (st_X11_tellsWord n) (0, [.ref a0, .int x1], M)
set_option maxHeartbeats 4000000 in
set_option maxRecDepth 100000 in
theorem ge_X11_tellsWord_0 (n : Nat) (a0 : Nat) (x1 : Int32) (M : Mem) : g_X11_tellsWord_0 n a0 x1 M = T_X11_tellsWord_0 (fun c l M => lp (st_X11_tellsWord n) (c, l, M)) (fun v M => some (v, M)) none n a0 x1 M := (lp_eq _ _).trans (n_X11_tellsWord_0 (lpK (st_X11_tellsWord n)) (fun c l M => some (.inl (c, l, M))) (fun v M => some (.inr (v, M))) none n a0 x1 M)
noncomputable abbrev g_X11_tellsWord_17 (n : Nat) (a0 : Nat) (x1 : Int32) (x2 : Int32) (x3 : Int32) (M : Mem) : Option (Unit × Mem) := lp (st_X11_tellsWord n) (17, [.ref a0, .int x1, .int x2, .int x3], M)
set_option maxHeartbeats 4000000 in
set_option maxRecDepth 100000 in
theorem ge_X11_tellsWord_17 (n : Nat) (a0 : Nat) (x1 : Int32) (x2 : Int32) (x3 : Int32) (M : Mem) : g_X11_tellsWord_17 n a0 x1 x2 x3 M = T_X11_tellsWord_17 (fun c l M => lp (st_X11_tellsWord n) (c, l, M)) (fun v M => some (v, M)) none n a0 x1 x2 x3 M := (lp_eq _ _).trans (n_X11_tellsWord_17 (lpK (st_X11_tellsWord n)) (fun c l M => some (.inl (c, l, M))) (fun v M => some (.inr (v, M))) none n a0 x1 x2 x3 M)
noncomputable abbrev g_X11_tellsWord_42 (n : Nat) (a0 : Nat) (x2 : Int32) (M : Mem) : Option (Unit × Mem) := lp (st_X11_tellsWord n) (42, [.ref a0, .int x2], M)
set_option maxHeartbeats 4000000 in
set_option maxRecDepth 100000 in
theorem ge_X11_tellsWord_42 (n : Nat) (a0 : Nat) (x2 : Int32) (M : Mem) : g_X11_tellsWord_42 n a0 x2 M = T_X11_tellsWord_42 (fun c l M => lp (st_X11_tellsWord n) (c, l, M)) (fun v M => some (v, M)) none n a0 x2 M := (lp_eq _ _).trans (n_X11_tellsWord_42 (lpK (st_X11_tellsWord n)) (fun c l M => some (.inl (c, l, M))) (fun v M => some (.inr (v, M))) none n a0 x2 M)
noncomputable def b_X11_tellsWord (n : Nat) (a0 : Nat) (x1 : Int32) (M : Mem) : Option (Unit × Mem) := g_X11_tellsWord_0 n a0 x1 M
set_option maxHeartbeats 4000000 in
set_option maxRecDepth 100000 in
theorem sb_X11_tellsWord {X : Nat × (Nat → Int32)} {al : Bool} {n : Nat} {a0 : Nat} {x1 : Int32} {M : Mem} {v : Unit} {M1 : Mem} (h : b_X11_tellsWord n a0 x1 M = some (v, M1)) : AE yX11_tellsWord cX11_tellsWord 4 none al n X [.ref a0, .int x1] M none M1 := by
  refine AM.of false (by decide +kernel) (by intro h; cases h) (Nat.le_of_ble_eq_true rfl) ?_
  refine lp_snd (P := fun s r => PW_X11_tellsWord X al n (fun v M2 => v = none ∧ M2 = r.2) s.1 s.2.1 s.2.2) ?_ h
  clear h
  rintro ⟨c, l, M⟩ r h
  unfold st_X11_tellsWord at h
  rcases ite_p h with ⟨e, h⟩ | ⟨e, h⟩
  · replace e : c = 0 := e
    subst e
    obtain ⟨a0, tt0, e, h⟩ := vR_p id h
    replace e : l = _ := e
    subst e
    obtain ⟨x1, tt1, e, h⟩ := vI_p id h
    replace e : tt0 = _ := e
    subst e
    obtain ⟨e, h⟩ := vE_p id h
    replace e : tt1 = [] := e
    subst e
    exact w_X11_tellsWord_0 (J := fun c l M => PW_X11_tellsWord X al n (fun v M2 => v = none ∧ M2 = r.2) c l M) (R := fun v M => (v, M) = r) (fun _ _ _ h => h) (fun v M h => by cases h; exact ⟨rfl, rfl⟩) ((n_X11_tellsWord_0 (lpP (fun (s : Sg) (r : Unit × Mem) => PW_X11_tellsWord X al n (fun v M2 => v = none ∧ M2 = r.2) s.1 s.2.1 s.2.2) r) (fun c l M => some (.inl (c, l, M))) (fun v M => some (.inr (v, M))) none n a0 x1 M).mp h)
  rcases ite_p h with ⟨e, h⟩ | ⟨e, h⟩
  · replace e : c = 17 := e
    subst e
    obtain ⟨a0, tt0, e, h⟩ := vR_p id h
    replace e : l = _ := e
    subst e
    obtain ⟨x1, tt1, e, h⟩ := vI_p id h
    replace e : tt0 = _ := e
    subst e
    obtain ⟨x2, tt2, e, h⟩ := vI_p id h
    replace e : tt1 = _ := e
    subst e
    obtain ⟨x3, tt3, e, h⟩ := vI_p id h
    replace e : tt2 = _ := e
    subst e
    obtain ⟨e, h⟩ := vE_p id h
    replace e : tt3 = [] := e
    subst e
    exact w_X11_tellsWord_17 (J := fun c l M => PW_X11_tellsWord X al n (fun v M2 => v = none ∧ M2 = r.2) c l M) (R := fun v M => (v, M) = r) (fun _ _ _ h => h) (fun v M h => by cases h; exact ⟨rfl, rfl⟩) ((n_X11_tellsWord_17 (lpP (fun (s : Sg) (r : Unit × Mem) => PW_X11_tellsWord X al n (fun v M2 => v = none ∧ M2 = r.2) s.1 s.2.1 s.2.2) r) (fun c l M => some (.inl (c, l, M))) (fun v M => some (.inr (v, M))) none n a0 x1 x2 x3 M).mp h)
  rcases ite_p h with ⟨e, h⟩ | ⟨e, h⟩
  · replace e : c = 42 := e
    subst e
    obtain ⟨a0, tt0, e, h⟩ := vR_p id h
    replace e : l = _ := e
    subst e
    obtain ⟨x2, tt1, e, h⟩ := vI_p id h
    replace e : tt0 = _ := e
    subst e
    obtain ⟨e, h⟩ := vE_p id h
    replace e : tt1 = [] := e
    subst e
    exact w_X11_tellsWord_42 (J := fun c l M => PW_X11_tellsWord X al n (fun v M2 => v = none ∧ M2 = r.2) c l M) (R := fun v M => (v, M) = r) (fun _ _ _ h => h) (fun v M h => by cases h; exact ⟨rfl, rfl⟩) ((n_X11_tellsWord_42 (lpP (fun (s : Sg) (r : Unit × Mem) => PW_X11_tellsWord X al n (fun v M2 => v = none ∧ M2 = r.2) s.1 s.2.1 s.2.2) r) (fun c l M => some (.inl (c, l, M))) (fun v M => some (.inr (v, M))) none n a0 x2 M).mp h)
  · exact h.elim

noncomputable abbrev f_X11_tellsWord := b_X11_tellsWord
theorem s_X11_tellsWord {X : Nat × (Nat → Int32)} {al : Bool} {n : Nat} {a0 : Nat} {x1 : Int32} {M : Mem} {v : Unit} {M1 : Mem} (h : f_X11_tellsWord n a0 x1 M = some (v, M1)) : AE yX11_tellsWord cX11_tellsWord 4 none al n X [.ref a0, .int x1] M none M1 := sb_X11_tellsWord h
set_option maxHeartbeats 4000000 in
set_option maxRecDepth 100000 in
noncomputable def T_X11_tellsFormula_0.{u} {α : Sort u} (R : Unit → Mem → α) (N : α) (cl : Nat → List Value → Mem → Option (Unit × Mem)) (n : Nat) (a0 : Nat) (x1 : Int32) (M : Mem) : α := gd (fO M a0 11) N (bnd (M.2.2.2.2 a0 1) N (fun r3 => gd (fA M r3 1 x1) N (bnd2 (cal n (fun n => f_X11_tellsWord n a0 (M.2.2.1 r3 (x1.toNatClampNeg)) M)) N (fun _ M9 => gd (fO M9 a0 11) N (bnd (M9.2.2.2.2 a0 2) N (fun r15 => gd (fA M9 r15 1 x1) N (if (M9.2.2.1 r15 (x1.toNatClampNeg)) = (-1) then R () M9 else bnd2 (cl 0 [.ref a0, .int (M9.2.2.1 r15 (x1.toNatClampNeg))] M9) N (fun _ M22 => gd (fO M22 a0 11) N (bnd (M22.2.2.2.2 a0 3) N (fun r28 => gd (fA M22 r28 1 x1) N (bnd2 (cl 0 [.ref a0, .int (M22.2.2.1 r28 (x1.toNatClampNeg))] M22) N (fun _ M34 => R () M34))))))))))))
set_option maxHeartbeats 4000000 in
set_option maxRecDepth 100000 in
theorem n_X11_tellsFormula_0.{u, v} {α : Sort u} {β : Sort v} (h : α → β) (R : Unit → Mem → α) (N : α) (cl : Nat → List Value → Mem → Option (Unit × Mem)) (n : Nat) (a0 : Nat) (x1 : Int32) (M : Mem) : h (T_X11_tellsFormula_0 R N cl n a0 x1 M) = T_X11_tellsFormula_0 (fun v M => h (R v M)) (h N) cl n a0 x1 M := by
  simp only [T_X11_tellsFormula_0, nat_ite h, nat_gd h, nat_bnd h, nat_bnd2 h]
set_option maxHeartbeats 4000000 in
set_option maxRecDepth 100000 in
theorem w_X11_tellsFormula_0 {X : Nat × (Nat → Int32)} {al : Bool} {n : Nat} {Q : Option Value → Mem → Prop} {R : Unit → Mem → Prop} (hR : ∀ v M, R v M → Q none M) {cl : Nat → List Value → Mem → Option (Unit × Mem)} (hc_X11_tellsFormula : ∀ {a0 : Nat} {x1 : Int32} {M : Mem} {v : Unit} {M1 : Mem}, cl 0 [.ref a0, .int x1] M = some (v, M1) → ∃ k, n = k + 1 ∧ AE yX11_tellsFormula cX11_tellsFormula 2 none al k X [.ref a0, .int x1] M none M1) {a0 : Nat} {x1 : Int32} {M : Mem} (h : T_X11_tellsFormula_0 R False cl n a0 x1 M) : AW X (RX11, cX11_tellsFormula, 2, none, false, al, n) 0 0 0 [(0, .ref a0), (1, .int x1)] [] M Q := by
  unfold T_X11_tellsFormula_0 at h
  refine a_aload_n dX11_tellsFormula_0 rfl rfl ?_
  refine a_aload_n dX11_tellsFormula_1 rfl rfl ?_
  obtain ⟨⟨ga1, gs2⟩, h⟩ := gd_t h
  obtain ⟨r3, e4, h⟩ := bnd_t h
  refine a_get (v := .ref r3) dX11_tellsFormula_2 fl_11_13 ga1 gs2 (gvR e4 rfl) ?_
  refine a_iload_n dX11_tellsFormula_5 rfl rfl ?_
  obtain ⟨⟨ga5, gn6, gs7, gi8⟩, h⟩ := gd_t h
  refine a_iaload dX11_tellsFormula_6 ga5 gs7 gi8 ?_
  obtain ⟨_, M9, e10, h⟩ := bnd2_t h
  obtain ⟨n11, en12, e10⟩ := cal_t e10
  refine e_callV (As := [.int (M.2.2.1 r3 (x1.toNatClampNeg))]) (st := []) (a := a0) (ci := 11) false dX11_tellsFormula_7 mw_X11_tellsWord (Or.inl ⟨rfl, ml_X11_373⟩) im_X11_tellsWord se_X11_tellsWord (by decide) ga1 gs2 rfl (Nat.le_of_ble_eq_true rfl) en12 (s_X11_tellsWord e10) ?_
  refine a_aload_n dX11_tellsFormula_10 rfl rfl ?_
  obtain ⟨⟨ga13, gs14⟩, h⟩ := gd_t h
  obtain ⟨r15, e16, h⟩ := bnd_t h
  refine a_get (v := .ref r15) dX11_tellsFormula_11 fl_11_17 ga13 gs14 (gvR e16 rfl) ?_
  refine a_iload_n dX11_tellsFormula_14 rfl rfl ?_
  obtain ⟨⟨ga17, gn18, gs19, gi20⟩, h⟩ := gd_t h
  refine a_iaload dX11_tellsFormula_15 ga17 gs19 gi20 ?_
  refine a_iconst (v := -1) dX11_tellsFormula_16 (by decide) ?_
  refine a_icmp_ne 21 dX11_tellsFormula_17 (by decide) (fun c21 => ?_) (fun c21 => ?_)
  · replace h := ite_f c21 h
    refine a_aload_n dX11_tellsFormula_21 rfl rfl ?_
    refine a_aload_n dX11_tellsFormula_22 rfl rfl ?_
    refine a_get (v := .ref r15) dX11_tellsFormula_23 fl_11_17 ga13 gs14 (gvR e16 rfl) ?_
    refine a_iload_n dX11_tellsFormula_26 rfl rfl ?_
    refine a_iaload dX11_tellsFormula_27 ga17 gs19 gi20 ?_
    obtain ⟨_, M22, e23, h⟩ := bnd2_t h
    obtain ⟨n24, en25, e23⟩ := hc_X11_tellsFormula e23
    refine e_callV (As := [.int (M9.2.2.1 r15 (x1.toNatClampNeg))]) (st := []) (a := a0) (ci := 11) false dX11_tellsFormula_28 mw_X11_tellsFormula (Or.inl ⟨rfl, ml_X11_376⟩) im_X11_tellsFormula se_X11_tellsFormula (by decide) ga13 gs14 rfl (Nat.le_of_ble_eq_true rfl) en25 e23 ?_
    refine a_aload_n dX11_tellsFormula_31 rfl rfl ?_
    refine a_aload_n dX11_tellsFormula_32 rfl rfl ?_
    obtain ⟨⟨ga26, gs27⟩, h⟩ := gd_t h
    obtain ⟨r28, e29, h⟩ := bnd_t h
    refine a_get (v := .ref r28) dX11_tellsFormula_33 fl_11_20 ga26 gs27 (gvR e29 rfl) ?_
    refine a_iload_n dX11_tellsFormula_36 rfl rfl ?_
    obtain ⟨⟨ga30, gn31, gs32, gi33⟩, h⟩ := gd_t h
    refine a_iaload dX11_tellsFormula_37 ga30 gs32 gi33 ?_
    obtain ⟨_, M34, e35, h⟩ := bnd2_t h
    obtain ⟨n36, en37, e35⟩ := hc_X11_tellsFormula e35
    refine e_callV (As := [.int (M22.2.2.1 r28 (x1.toNatClampNeg))]) (st := []) (a := a0) (ci := 11) false dX11_tellsFormula_38 mw_X11_tellsFormula (Or.inl ⟨rfl, ml_X11_376⟩) im_X11_tellsFormula se_X11_tellsFormula (by decide) ga26 gs27 rfl (Nat.le_of_ble_eq_true rfl) en37 e35 ?_
    exact a_vret dX11_tellsFormula_41 rfl (hR _ _ h)
  · replace h := ite_t c21 h
    exact a_vret dX11_tellsFormula_20 rfl (hR _ _ h)
noncomputable def b_X11_tellsFormula (cl : Nat → List Value → Mem → Option (Unit × Mem)) (n : Nat) (a0 : Nat) (x1 : Int32) (M : Mem) : Option (Unit × Mem) := T_X11_tellsFormula_0 (fun v M => some (v, M)) none cl n a0 x1 M
set_option maxHeartbeats 4000000 in
set_option maxRecDepth 100000 in
theorem sb_X11_tellsFormula {X : Nat × (Nat → Int32)} {al : Bool} {n : Nat} {cl : Nat → List Value → Mem → Option (Unit × Mem)} (hc_X11_tellsFormula : ∀ {a0 : Nat} {x1 : Int32} {M : Mem} {v : Unit} {M1 : Mem}, cl 0 [.ref a0, .int x1] M = some (v, M1) → ∃ k, n = k + 1 ∧ AE yX11_tellsFormula cX11_tellsFormula 2 none al k X [.ref a0, .int x1] M none M1) {a0 : Nat} {x1 : Int32} {M : Mem} {v : Unit} {M1 : Mem} (h : b_X11_tellsFormula cl n a0 x1 M = some (v, M1)) : AE yX11_tellsFormula cX11_tellsFormula 2 none al n X [.ref a0, .int x1] M none M1 := by
  refine AM.of false (by decide +kernel) (by intro h; cases h) (Nat.le_of_ble_eq_true rfl) ?_
  have h2 : T_X11_tellsFormula_0 (fun v2 M2 => some (v2, M2) = some (v, M1)) (none = some (v, M1)) cl n a0 x1 M := (n_X11_tellsFormula_0 (fun o => o = some (v, M1)) (fun v M => some (v, M)) none cl n a0 x1 M).mp h
  have h3 : ((none : Option (Unit × Mem)) = some (v, M1)) = False := eq_false (by intro q; cases q)
  rw [h3] at h2
  exact w_X11_tellsFormula_0 (fun v2 M2 h => by cases h; exact ⟨rfl, rfl⟩) hc_X11_tellsFormula h2

noncomputable def F_X11_tellsFormula (cl : Nat → List Value → Mem → Option (Unit × Mem)) (n k : Nat) (l : List Value) (M : Mem) : Option (Unit × Mem) := if k = 0 then vR l none (fun a0 t => vI t none (fun x1 t => vE t none (b_X11_tellsFormula cl n a0 x1 M))) else none
noncomputable def r_X11_tellsFormula : Nat → Nat → List Value → Mem → Option (Unit × Mem)
  | 0 => F_X11_tellsFormula (fun _ _ _ => none) 0
  | n + 1 => F_X11_tellsFormula (r_X11_tellsFormula n) (n + 1)
noncomputable abbrev f_X11_tellsFormula (n : Nat) (a0 : Nat) (x1 : Int32) (M : Mem) : Option (Unit × Mem) := r_X11_tellsFormula n 0 [.ref a0, .int x1] M
set_option maxHeartbeats 4000000 in
set_option maxRecDepth 100000 in
theorem sr_X11_tellsFormula {X : Nat × (Nat → Int32)} {al : Bool} : ∀ n : Nat, (∀ {a0 : Nat} {x1 : Int32} {M : Mem} {v : Unit} {M1 : Mem}, f_X11_tellsFormula n a0 x1 M = some (v, M1) → AE yX11_tellsFormula cX11_tellsFormula 2 none al n X [.ref a0, .int x1] M none M1) := by
  intro n
  induction n with
  | zero => exact (fun h => sb_X11_tellsFormula (cl := fun _ _ _ => none) (fun h => by cases h) h)
  | succ n ih => exact (fun h => sb_X11_tellsFormula (cl := r_X11_tellsFormula n) (fun h => ⟨n, rfl, ih h⟩) h)
theorem s_X11_tellsFormula {X : Nat × (Nat → Int32)} {al : Bool} {n : Nat} {a0 : Nat} {x1 : Int32} {M : Mem} {v : Unit} {M1 : Mem} (h : f_X11_tellsFormula n a0 x1 M = some (v, M1)) : AE yX11_tellsFormula cX11_tellsFormula 2 none al n X [.ref a0, .int x1] M none M1 := (sr_X11_tellsFormula n) h
set_option maxHeartbeats 4000000 in
set_option maxRecDepth 100000 in
noncomputable def T_X11_hypothesis_0.{u} {α : Sort u} (R : Int32 → Mem → α) (N : α) (n : Nat) (a0 : Nat) (x1 : Int32) (x2 : Int32) (x3 : Int32) (M : Mem) : α := gd (fO M a0 11) N (bnd2 (cal n (fun n => f_X11_isIn n (Int32.toInt64 x1) 0 (Int32.toInt64 (((wI M a0 0 0).2.2.1 a0 15) - 1)) (wI M a0 0 0))) N (fun v3 M4 => if v3 = 0 then R (-2) M4 else bnd2 (cal n (fun n => f_X11_isIn n (Int32.toInt64 x2) 0 1 M4)) N (fun v9 M10 => if v9 = 0 then R (-2) M10 else if 0 ≤ x3 then gd (fO M10 a0 11) N (bnd2 (cal n (fun n => f_X11_begins0 n a0 x3 M10)) N (fun _ M18 => if x2 = 0 then gd (fO M18 a0 11) N (bnd2 (cal n (fun n => f_X11_tellsHypothesis n a0 x1 M18)) N (fun _ M39 => gd (fO M39 a0 11) N (R (M39.2.2.1 a0 50) M39))) else gd (fO M18 a0 11) N (bnd (M18.2.2.2.2 a0 11) N (fun r25 => gd (fA M18 r25 1 x1) N (bnd2 (cal n (fun n => f_X11_tellsFormula n a0 (M18.2.2.1 r25 (x1.toNatClampNeg)) M18)) N (fun _ M31 => gd (fO M31 a0 11) N (R (M31.2.2.1 a0 50) M31))))))) else R (-3) M10)))
set_option maxHeartbeats 4000000 in
set_option maxRecDepth 100000 in
theorem n_X11_hypothesis_0.{u, v} {α : Sort u} {β : Sort v} (h : α → β) (R : Int32 → Mem → α) (N : α) (n : Nat) (a0 : Nat) (x1 : Int32) (x2 : Int32) (x3 : Int32) (M : Mem) : h (T_X11_hypothesis_0 R N n a0 x1 x2 x3 M) = T_X11_hypothesis_0 (fun v M => h (R v M)) (h N) n a0 x1 x2 x3 M := by
  simp only [T_X11_hypothesis_0, nat_ite h, nat_gd h, nat_bnd h, nat_bnd2 h]
set_option maxHeartbeats 4000000 in
set_option maxRecDepth 100000 in
theorem w_X11_hypothesis_0 {X : Nat × (Nat → Int32)} {al : Bool} {n : Nat} {Q : Option Value → Mem → Prop} {R : Int32 → Mem → Prop} (hR : ∀ v M, R v M → Q (some (.int v)) M) {a0 : Nat} {x1 : Int32} {x2 : Int32} {x3 : Int32} {M : Mem} (h : T_X11_hypothesis_0 R False n a0 x1 x2 x3 M) : AW X (RX11, cX11_hypothesis, 4, (some .int), false, al, n) 0 0 0 [(0, .ref a0), (1, .int x1), (2, .int x2), (3, .int x3)] [] M Q := by
  unfold T_X11_hypothesis_0 at h
  refine a_aload_n dX11_hypothesis_0 rfl rfl ?_
  refine a_iconst (v := 0) dX11_hypothesis_1 (by decide) ?_
  obtain ⟨⟨ga1, gs2⟩, h⟩ := gd_t h
  refine a_putI dX11_hypothesis_2 (Or.inl ⟨fl_11_1, Or.inl rfl⟩) rfl ga1 gs2 rfl rfl ?_
  refine a_iload_n dX11_hypothesis_5 rfl rfl ?_
  refine a_i2l dX11_hypothesis_6 ?_
  refine a_lconst (v := 0) dX11_hypothesis_7 (by decide) ?_
  refine a_aload_n dX11_hypothesis_8 rfl rfl ?_
  refine a_get (v := .int ((wI M a0 0 0).2.2.1 a0 15)) dX11_hypothesis_9 fl_11_144 ga1 gs2 rfl ?_
  refine a_iconst (v := 1) dX11_hypothesis_12 (by decide) ?_
  refine a_isub dX11_hypothesis_13 ?_
  refine a_i2l dX11_hypothesis_14 ?_
  obtain ⟨v3, M4, e5, h⟩ := bnd2_t h
  obtain ⟨n6, en7, e5⟩ := cal_t e5
  refine e_callS (As := [.long (Int32.toInt64 x1), .long 0, .long (Int32.toInt64 (((wI M a0 0 0).2.2.1 a0 15) - 1))]) (st := []) false dX11_hypothesis_15 mw_X11_isIn (Or.inl ⟨rfl, ml_X11_180⟩) sm_X11_isIn rfl (Nat.le_of_ble_eq_true rfl) en7 (s_X11_isIn e5) ?_
  refine a_if_eq 31 dX11_hypothesis_18 (by decide) (fun c8 => ?_) (fun c8 => ?_)
  · replace h := ite_t c8 h
    refine a_bipush (v := -2) dX11_hypothesis_31 (by decide) ?_
    exact a_iret dX11_hypothesis_33 rfl (hR _ _ h)
  · replace h := ite_f c8 h
    refine a_iload_n dX11_hypothesis_21 rfl rfl ?_
    refine a_i2l dX11_hypothesis_22 ?_
    refine a_lconst (v := 0) dX11_hypothesis_23 (by decide) ?_
    refine a_lconst (v := 1) dX11_hypothesis_24 (by decide) ?_
    obtain ⟨v9, M10, e11, h⟩ := bnd2_t h
    obtain ⟨n12, en13, e11⟩ := cal_t e11
    refine e_callS (As := [.long (Int32.toInt64 x2), .long 0, .long 1]) (st := []) false dX11_hypothesis_25 mw_X11_isIn (Or.inl ⟨rfl, ml_X11_180⟩) sm_X11_isIn rfl (Nat.le_of_ble_eq_true rfl) en13 (s_X11_isIn e11) ?_
    refine a_if_ne 34 dX11_hypothesis_28 (by decide) (fun c14 => ?_) (fun c14 => ?_)
    · replace h := ite_f c14 h
      refine a_iload_n dX11_hypothesis_34 rfl rfl ?_
      refine a_if_ge 41 dX11_hypothesis_35 (by decide) (fun c15 => ?_) (fun c15 => ?_)
      · replace h := ite_t c15 h
        refine a_aload_n dX11_hypothesis_41 rfl rfl ?_
        refine a_iload_n dX11_hypothesis_42 rfl rfl ?_
        obtain ⟨⟨ga16, gs17⟩, h⟩ := gd_t h
        obtain ⟨_, M18, e19, h⟩ := bnd2_t h
        obtain ⟨n20, en21, e19⟩ := cal_t e19
        refine e_callV (As := [.int x3]) (st := []) (a := a0) (ci := 11) false dX11_hypothesis_43 mw_X11_begins0 (Or.inl ⟨rfl, ml_X11_389⟩) im_X11_begins0 se_X11_begins0 (by decide) ga16 gs17 rfl (Nat.le_of_ble_eq_true rfl) en21 (s_X11_begins0 e19) ?_
        refine a_iload_n dX11_hypothesis_46 rfl rfl ?_
        refine a_if_ne 58 dX11_hypothesis_47 (by decide) (fun c22 => ?_) (fun c22 => ?_)
        · replace h := ite_f c22 h
          refine a_aload_n dX11_hypothesis_58 rfl rfl ?_
          refine a_aload_n dX11_hypothesis_59 rfl rfl ?_
          obtain ⟨⟨ga23, gs24⟩, h⟩ := gd_t h
          obtain ⟨r25, e26, h⟩ := bnd_t h
          refine a_get (v := .ref r25) dX11_hypothesis_60 fl_11_38 ga23 gs24 (gvR e26 rfl) ?_
          refine a_iload_n dX11_hypothesis_63 rfl rfl ?_
          obtain ⟨⟨ga27, gn28, gs29, gi30⟩, h⟩ := gd_t h
          refine a_iaload dX11_hypothesis_64 ga27 gs29 gi30 ?_
          obtain ⟨_, M31, e32, h⟩ := bnd2_t h
          obtain ⟨n33, en34, e32⟩ := cal_t e32
          refine e_callV (As := [.int (M18.2.2.1 r25 (x1.toNatClampNeg))]) (st := []) (a := a0) (ci := 11) false dX11_hypothesis_65 mw_X11_tellsFormula (Or.inl ⟨rfl, ml_X11_376⟩) im_X11_tellsFormula se_X11_tellsFormula (by decide) ga23 gs24 rfl (Nat.le_of_ble_eq_true rfl) en34 (s_X11_tellsFormula e32) ?_
          refine a_aload_n dX11_hypothesis_68 rfl rfl ?_
          obtain ⟨⟨ga35, gs36⟩, h⟩ := gd_t h
          refine a_get (v := .int (M31.2.2.1 a0 50)) dX11_hypothesis_69 fl_11_367 ga35 gs36 rfl ?_
          exact a_iret dX11_hypothesis_72 rfl (hR _ _ h)
        · replace h := ite_t c22 h
          refine a_aload_n dX11_hypothesis_50 rfl rfl ?_
          refine a_iload_n dX11_hypothesis_51 rfl rfl ?_
          obtain ⟨⟨ga37, gs38⟩, h⟩ := gd_t h
          obtain ⟨_, M39, e40, h⟩ := bnd2_t h
          obtain ⟨n41, en42, e40⟩ := cal_t e40
          refine e_callV (As := [.int x1]) (st := []) (a := a0) (ci := 11) false dX11_hypothesis_52 mw_X11_tellsHypothesis (Or.inl ⟨rfl, ml_X11_379⟩) im_X11_tellsHypothesis se_X11_tellsHypothesis (by decide) ga37 gs38 rfl (Nat.le_of_ble_eq_true rfl) en42 (s_X11_tellsHypothesis e40) ?_
          refine a_goto 68 dX11_hypothesis_55 (by decide) ?_
          refine a_aload_n dX11_hypothesis_68 rfl rfl ?_
          obtain ⟨⟨ga43, gs44⟩, h⟩ := gd_t h
          refine a_get (v := .int (M39.2.2.1 a0 50)) dX11_hypothesis_69 fl_11_367 ga43 gs44 rfl ?_
          exact a_iret dX11_hypothesis_72 rfl (hR _ _ h)
      · replace h := ite_f c15 h
        refine a_bipush (v := -3) dX11_hypothesis_38 (by decide) ?_
        exact a_iret dX11_hypothesis_40 rfl (hR _ _ h)
    · replace h := ite_t c14 h
      refine a_bipush (v := -2) dX11_hypothesis_31 (by decide) ?_
      exact a_iret dX11_hypothesis_33 rfl (hR _ _ h)
noncomputable def b_X11_hypothesis (n : Nat) (a0 : Nat) (x1 : Int32) (x2 : Int32) (x3 : Int32) (M : Mem) : Option (Int32 × Mem) := T_X11_hypothesis_0 (fun v M => some (v, M)) none n a0 x1 x2 x3 M
set_option maxHeartbeats 4000000 in
set_option maxRecDepth 100000 in
theorem sb_X11_hypothesis {X : Nat × (Nat → Int32)} {al : Bool} {n : Nat} {a0 : Nat} {x1 : Int32} {x2 : Int32} {x3 : Int32} {M : Mem} {v : Int32} {M1 : Mem} (h : b_X11_hypothesis n a0 x1 x2 x3 M = some (v, M1)) : AE yX11_hypothesis cX11_hypothesis 4 (some .int) al n X [.ref a0, .int x1, .int x2, .int x3] M (some (.int v)) M1 := by
  refine AM.of false (by decide +kernel) (by intro h; cases h) (Nat.le_of_ble_eq_true rfl) ?_
  have h2 : T_X11_hypothesis_0 (fun v2 M2 => some (v2, M2) = some (v, M1)) (none = some (v, M1)) n a0 x1 x2 x3 M := (n_X11_hypothesis_0 (fun o => o = some (v, M1)) (fun v M => some (v, M)) none n a0 x1 x2 x3 M).mp h
  have h3 : ((none : Option (Int32 × Mem)) = some (v, M1)) = False := eq_false (by intro q; cases q)
  rw [h3] at h2
  exact w_X11_hypothesis_0 (fun v2 M2 h => by cases h; exact ⟨rfl, rfl⟩) h2

noncomputable abbrev f_X11_hypothesis := b_X11_hypothesis
theorem s_X11_hypothesis {X : Nat × (Nat → Int32)} {al : Bool} {n : Nat} {a0 : Nat} {x1 : Int32} {x2 : Int32} {x3 : Int32} {M : Mem} {v : Int32} {M1 : Mem} (h : f_X11_hypothesis n a0 x1 x2 x3 M = some (v, M1)) : AE yX11_hypothesis cX11_hypothesis 4 (some .int) al n X [.ref a0, .int x1, .int x2, .int x3] M (some (.int v)) M1 := sb_X11_hypothesis h
set_option maxHeartbeats 4000000 in
set_option maxRecDepth 100000 in
noncomputable def T_X10_goalByte_0.{u} {α : Sort u} (R : Int32 → Mem → α) (N : α) (n : Nat) (a0 : Nat) (x1 : Int32) (M : Mem) : α := if 0 ≤ x1 then gd (fO M a0 10) N (bnd (M.2.2.2.2 a0 2) N (fun r4 => gd (fO M r4 1) N (bnd2 (cal n (fun n => f_X1_byteAt n r4 (M.2.2.1 a0 16) (Int32.toInt64 x1) M)) N (fun v8 M9 => R v8 M9)))) else R (-3) M
set_option maxHeartbeats 4000000 in
set_option maxRecDepth 100000 in
theorem n_X10_goalByte_0.{u, v} {α : Sort u} {β : Sort v} (h : α → β) (R : Int32 → Mem → α) (N : α) (n : Nat) (a0 : Nat) (x1 : Int32) (M : Mem) : h (T_X10_goalByte_0 R N n a0 x1 M) = T_X10_goalByte_0 (fun v M => h (R v M)) (h N) n a0 x1 M := by
  simp only [T_X10_goalByte_0, nat_ite h, nat_gd h, nat_bnd h, nat_bnd2 h]
set_option maxHeartbeats 4000000 in
set_option maxRecDepth 100000 in
theorem w_X10_goalByte_0 {X : Nat × (Nat → Int32)} {al : Bool} {n : Nat} {Q : Option Value → Mem → Prop} {R : Int32 → Mem → Prop} (hR : ∀ v M, R v M → Q (some (.int v)) M) {a0 : Nat} {x1 : Int32} {M : Mem} (h : T_X10_goalByte_0 R False n a0 x1 M) : AW X (RX10, cX10_goalByte, 2, (some .int), false, al, n) 0 0 0 [(0, .ref a0), (1, .int x1)] [] M Q := by
  unfold T_X10_goalByte_0 at h
  refine a_iload_n dX10_goalByte_0 rfl rfl ?_
  refine a_if_ge 9 dX10_goalByte_1 (by decide) (fun c1 => ?_) (fun c1 => ?_)
  · replace h := ite_t c1 h
    refine a_aload_n dX10_goalByte_9 rfl rfl ?_
    obtain ⟨⟨ga2, gs3⟩, h⟩ := gd_t h
    obtain ⟨r4, e5, h⟩ := bnd_t h
    refine a_get (v := .ref r4) dX10_goalByte_10 fl_10_16 ga2 gs3 (gvR e5 rfl) ?_
    refine a_aload_n dX10_goalByte_13 rfl rfl ?_
    refine a_get (v := .int (M.2.2.1 a0 16)) dX10_goalByte_14 fl_10_105 ga2 gs3 rfl ?_
    refine a_iload_n dX10_goalByte_17 rfl rfl ?_
    refine a_i2l dX10_goalByte_18 ?_
    obtain ⟨⟨ga6, gs7⟩, h⟩ := gd_t h
    obtain ⟨v8, M9, e10, h⟩ := bnd2_t h
    obtain ⟨n11, en12, e10⟩ := cal_t e10
    refine e_callV (As := [.int (M.2.2.1 a0 16), .long (Int32.toInt64 x1)]) (st := []) (a := r4) (ci := 1) false dX10_goalByte_19 mw_X1_byteAt (Or.inl ⟨rfl, ml_X10_193⟩) im_X1_byteAt se_X1_byteAt (by decide) ga6 gs7 rfl (Nat.le_of_ble_eq_true rfl) en12 (s_X1_byteAt e10) ?_
    exact a_iret dX10_goalByte_22 rfl (hR _ _ h)
  · replace h := ite_f c1 h
    refine a_bipush (v := -3) dX10_goalByte_4 (by decide) ?_
    refine a_goto 22 dX10_goalByte_6 (by decide) ?_
    exact a_iret dX10_goalByte_22 rfl (hR _ _ h)
noncomputable def b_X10_goalByte (n : Nat) (a0 : Nat) (x1 : Int32) (M : Mem) : Option (Int32 × Mem) := T_X10_goalByte_0 (fun v M => some (v, M)) none n a0 x1 M
set_option maxHeartbeats 4000000 in
set_option maxRecDepth 100000 in
theorem sb_X10_goalByte {X : Nat × (Nat → Int32)} {al : Bool} {n : Nat} {a0 : Nat} {x1 : Int32} {M : Mem} {v : Int32} {M1 : Mem} (h : b_X10_goalByte n a0 x1 M = some (v, M1)) : AE yX10_goalByte cX10_goalByte 2 (some .int) al n X [.ref a0, .int x1] M (some (.int v)) M1 := by
  refine AM.of false (by decide +kernel) (by intro h; cases h) (Nat.le_of_ble_eq_true rfl) ?_
  have h2 : T_X10_goalByte_0 (fun v2 M2 => some (v2, M2) = some (v, M1)) (none = some (v, M1)) n a0 x1 M := (n_X10_goalByte_0 (fun o => o = some (v, M1)) (fun v M => some (v, M)) none n a0 x1 M).mp h
  have h3 : ((none : Option (Int32 × Mem)) = some (v, M1)) = False := eq_false (by intro q; cases q)
  rw [h3] at h2
  exact w_X10_goalByte_0 (fun v2 M2 h => by cases h; exact ⟨rfl, rfl⟩) h2

noncomputable abbrev f_X10_goalByte := b_X10_goalByte
theorem s_X10_goalByte {X : Nat × (Nat → Int32)} {al : Bool} {n : Nat} {a0 : Nat} {x1 : Int32} {M : Mem} {v : Int32} {M1 : Mem} (h : f_X10_goalByte n a0 x1 M = some (v, M1)) : AE yX10_goalByte cX10_goalByte 2 (some .int) al n X [.ref a0, .int x1] M (some (.int v)) M1 := sb_X10_goalByte h
set_option maxHeartbeats 4000000 in
set_option maxRecDepth 100000 in
noncomputable def T_X11_goalByte_0.{u} {α : Sort u} (R : Int32 → Mem → α) (N : α) (n : Nat) (a0 : Nat) (x1 : Int32) (M : Mem) : α := gd (fO M a0 11) N (if 0 ≤ x1 then bnd2 (cal n (fun n => f_X11_begins0 n a0 x1 (wI M a0 0 0))) N (fun _ M4 => gd (fO M4 a0 11) N (bnd2 (cal n (fun n => f_X11_tellsFormula n a0 (M4.2.2.1 a0 16) M4)) N (fun _ M10 => gd (fO M10 a0 11) N (R (M10.2.2.1 a0 50) M10)))) else R (-3) (wI M a0 0 0))
set_option maxHeartbeats 4000000 in
set_option maxRecDepth 100000 in
theorem n_X11_goalByte_0.{u, v} {α : Sort u} {β : Sort v} (h : α → β) (R : Int32 → Mem → α) (N : α) (n : Nat) (a0 : Nat) (x1 : Int32) (M : Mem) : h (T_X11_goalByte_0 R N n a0 x1 M) = T_X11_goalByte_0 (fun v M => h (R v M)) (h N) n a0 x1 M := by
  simp only [T_X11_goalByte_0, nat_ite h, nat_gd h, nat_bnd h, nat_bnd2 h]
set_option maxHeartbeats 4000000 in
set_option maxRecDepth 100000 in
theorem w_X11_goalByte_0 {X : Nat × (Nat → Int32)} {al : Bool} {n : Nat} {Q : Option Value → Mem → Prop} {R : Int32 → Mem → Prop} (hR : ∀ v M, R v M → Q (some (.int v)) M) {a0 : Nat} {x1 : Int32} {M : Mem} (h : T_X11_goalByte_0 R False n a0 x1 M) : AW X (RX11, cX11_goalByte, 2, (some .int), false, al, n) 0 0 0 [(0, .ref a0), (1, .int x1)] [] M Q := by
  unfold T_X11_goalByte_0 at h
  refine a_aload_n dX11_goalByte_0 rfl rfl ?_
  refine a_iconst (v := 0) dX11_goalByte_1 (by decide) ?_
  obtain ⟨⟨ga1, gs2⟩, h⟩ := gd_t h
  refine a_putI dX11_goalByte_2 (Or.inl ⟨fl_11_1, Or.inl rfl⟩) rfl ga1 gs2 rfl rfl ?_
  refine a_iload_n dX11_goalByte_5 rfl rfl ?_
  refine a_if_ge 12 dX11_goalByte_6 (by decide) (fun c3 => ?_) (fun c3 => ?_)
  · replace h := ite_t c3 h
    refine a_aload_n dX11_goalByte_12 rfl rfl ?_
    refine a_iload_n dX11_goalByte_13 rfl rfl ?_
    obtain ⟨_, M4, e5, h⟩ := bnd2_t h
    obtain ⟨n6, en7, e5⟩ := cal_t e5
    refine e_callV (As := [.int x1]) (st := []) (a := a0) (ci := 11) false dX11_goalByte_14 mw_X11_begins0 (Or.inl ⟨rfl, ml_X11_389⟩) im_X11_begins0 se_X11_begins0 (by decide) ga1 gs2 rfl (Nat.le_of_ble_eq_true rfl) en7 (s_X11_begins0 e5) ?_
    refine a_aload_n dX11_goalByte_17 rfl rfl ?_
    refine a_aload_n dX11_goalByte_18 rfl rfl ?_
    obtain ⟨⟨ga8, gs9⟩, h⟩ := gd_t h
    refine a_get (v := .int (M4.2.2.1 a0 16)) dX11_goalByte_19 fl_11_134 ga8 gs9 rfl ?_
    obtain ⟨_, M10, e11, h⟩ := bnd2_t h
    obtain ⟨n12, en13, e11⟩ := cal_t e11
    refine e_callV (As := [.int (M4.2.2.1 a0 16)]) (st := []) (a := a0) (ci := 11) false dX11_goalByte_22 mw_X11_tellsFormula (Or.inl ⟨rfl, ml_X11_376⟩) im_X11_tellsFormula se_X11_tellsFormula (by decide) ga8 gs9 rfl (Nat.le_of_ble_eq_true rfl) en13 (s_X11_tellsFormula e11) ?_
    refine a_aload_n dX11_goalByte_25 rfl rfl ?_
    obtain ⟨⟨ga14, gs15⟩, h⟩ := gd_t h
    refine a_get (v := .int (M10.2.2.1 a0 50)) dX11_goalByte_26 fl_11_367 ga14 gs15 rfl ?_
    exact a_iret dX11_goalByte_29 rfl (hR _ _ h)
  · replace h := ite_f c3 h
    refine a_bipush (v := -3) dX11_goalByte_9 (by decide) ?_
    exact a_iret dX11_goalByte_11 rfl (hR _ _ h)
noncomputable def b_X11_goalByte (n : Nat) (a0 : Nat) (x1 : Int32) (M : Mem) : Option (Int32 × Mem) := T_X11_goalByte_0 (fun v M => some (v, M)) none n a0 x1 M
set_option maxHeartbeats 4000000 in
set_option maxRecDepth 100000 in
theorem sb_X11_goalByte {X : Nat × (Nat → Int32)} {al : Bool} {n : Nat} {a0 : Nat} {x1 : Int32} {M : Mem} {v : Int32} {M1 : Mem} (h : b_X11_goalByte n a0 x1 M = some (v, M1)) : AE yX11_goalByte cX11_goalByte 2 (some .int) al n X [.ref a0, .int x1] M (some (.int v)) M1 := by
  refine AM.of false (by decide +kernel) (by intro h; cases h) (Nat.le_of_ble_eq_true rfl) ?_
  have h2 : T_X11_goalByte_0 (fun v2 M2 => some (v2, M2) = some (v, M1)) (none = some (v, M1)) n a0 x1 M := (n_X11_goalByte_0 (fun o => o = some (v, M1)) (fun v M => some (v, M)) none n a0 x1 M).mp h
  have h3 : ((none : Option (Int32 × Mem)) = some (v, M1)) = False := eq_false (by intro q; cases q)
  rw [h3] at h2
  exact w_X11_goalByte_0 (fun v2 M2 h => by cases h; exact ⟨rfl, rfl⟩) h2

noncomputable abbrev f_X11_goalByte := b_X11_goalByte
theorem s_X11_goalByte {X : Nat × (Nat → Int32)} {al : Bool} {n : Nat} {a0 : Nat} {x1 : Int32} {M : Mem} {v : Int32} {M1 : Mem} (h : f_X11_goalByte n a0 x1 M = some (v, M1)) : AE yX11_goalByte cX11_goalByte 2 (some .int) al n X [.ref a0, .int x1] M (some (.int v)) M1 := sb_X11_goalByte h
set_option maxHeartbeats 4000000 in
set_option maxRecDepth 100000 in
noncomputable def T_X8_begin_0.{u} {α : Sort u} (R : Unit → Mem → α) (N : α) (n : Nat) (a0 : Nat) (j1 : Int64) (M : Mem) : α := gd (fO M a0 8) N (R () (wI (wJ (wJ M a0 2 j1) a0 3 0) a0 4 (-1)))
set_option maxHeartbeats 4000000 in
set_option maxRecDepth 100000 in
theorem n_X8_begin_0.{u, v} {α : Sort u} {β : Sort v} (h : α → β) (R : Unit → Mem → α) (N : α) (n : Nat) (a0 : Nat) (j1 : Int64) (M : Mem) : h (T_X8_begin_0 R N n a0 j1 M) = T_X8_begin_0 (fun v M => h (R v M)) (h N) n a0 j1 M := by
  simp only [T_X8_begin_0, nat_ite h, nat_gd h, nat_bnd h, nat_bnd2 h]
set_option maxHeartbeats 4000000 in
set_option maxRecDepth 100000 in
theorem w_X8_begin_0 {X : Nat × (Nat → Int32)} {al : Bool} {n : Nat} {Q : Option Value → Mem → Prop} {R : Unit → Mem → Prop} (hR : ∀ v M, R v M → Q none M) {a0 : Nat} {j1 : Int64} {M : Mem} (h : T_X8_begin_0 R False n a0 j1 M) : AW X (RX8, cX8_begin, 3, none, false, al, n) 0 0 0 [(0, .ref a0), (1, .long j1)] [] M Q := by
  unfold T_X8_begin_0 at h
  refine a_aload_n dX8_begin_0 rfl rfl ?_
  refine a_lload_n dX8_begin_1 rfl rfl ?_
  obtain ⟨⟨ga1, gs2⟩, h⟩ := gd_t h
  refine a_putJ dX8_begin_2 (Or.inl ⟨fl_8_19, Or.inl rfl⟩) rfl ga1 gs2 ?_
  refine a_aload_n dX8_begin_5 rfl rfl ?_
  refine a_lconst (v := 0) dX8_begin_6 (by decide) ?_
  refine a_putJ dX8_begin_7 (Or.inl ⟨fl_8_23, Or.inl rfl⟩) rfl ga1 gs2 ?_
  refine a_aload_n dX8_begin_10 rfl rfl ?_
  refine a_iconst (v := -1) dX8_begin_11 (by decide) ?_
  refine a_putI dX8_begin_12 (Or.inl ⟨fl_8_26, Or.inl rfl⟩) rfl ga1 gs2 rfl rfl ?_
  exact a_vret dX8_begin_15 rfl (hR _ _ h)
noncomputable def b_X8_begin (n : Nat) (a0 : Nat) (j1 : Int64) (M : Mem) : Option (Unit × Mem) := T_X8_begin_0 (fun v M => some (v, M)) none n a0 j1 M
set_option maxHeartbeats 4000000 in
set_option maxRecDepth 100000 in
theorem sb_X8_begin {X : Nat × (Nat → Int32)} {al : Bool} {n : Nat} {a0 : Nat} {j1 : Int64} {M : Mem} {v : Unit} {M1 : Mem} (h : b_X8_begin n a0 j1 M = some (v, M1)) : AE yX8_begin cX8_begin 3 none al n X [.ref a0, .long j1] M none M1 := by
  refine AM.of false (by decide +kernel) (by intro h; cases h) (Nat.le_of_ble_eq_true rfl) ?_
  have h2 : T_X8_begin_0 (fun v2 M2 => some (v2, M2) = some (v, M1)) (none = some (v, M1)) n a0 j1 M := (n_X8_begin_0 (fun o => o = some (v, M1)) (fun v M => some (v, M)) none n a0 j1 M).mp h
  have h3 : ((none : Option (Unit × Mem)) = some (v, M1)) = False := eq_false (by intro q; cases q)
  rw [h3] at h2
  exact w_X8_begin_0 (fun v2 M2 h => by cases h; exact ⟨rfl, rfl⟩) h2

noncomputable abbrev f_X8_begin := b_X8_begin
theorem s_X8_begin {X : Nat × (Nat → Int32)} {al : Bool} {n : Nat} {a0 : Nat} {j1 : Int64} {M : Mem} {v : Unit} {M1 : Mem} (h : f_X8_begin n a0 j1 M = some (v, M1)) : AE yX8_begin cX8_begin 3 none al n X [.ref a0, .long j1] M none M1 := sb_X8_begin h
set_option maxHeartbeats 4000000 in
set_option maxRecDepth 100000 in
noncomputable def T_X8_putBlank_0.{u} {α : Sort u} (R : Unit → Mem → α) (N : α) (n : Nat) (a0 : Nat) (M : Mem) : α := gd (fO M a0 8) N (if (lg_cmp (M.2.2.2.1 a0 3) 0) ≤ 0 then R () M else if (lg_cmp (M.2.2.2.1 a0 3) (M.2.2.2.1 a0 2)) = 0 then R () (wJ (wI M a0 4 32) a0 3 ((M.2.2.2.1 a0 3) + 1)) else R () (wJ M a0 3 ((M.2.2.2.1 a0 3) + 1)))
set_option maxHeartbeats 4000000 in
set_option maxRecDepth 100000 in
theorem n_X8_putBlank_0.{u, v} {α : Sort u} {β : Sort v} (h : α → β) (R : Unit → Mem → α) (N : α) (n : Nat) (a0 : Nat) (M : Mem) : h (T_X8_putBlank_0 R N n a0 M) = T_X8_putBlank_0 (fun v M => h (R v M)) (h N) n a0 M := by
  simp only [T_X8_putBlank_0, nat_ite h, nat_gd h, nat_bnd h, nat_bnd2 h]
set_option maxHeartbeats 4000000 in
set_option maxRecDepth 100000 in
theorem w_X8_putBlank_0 {X : Nat × (Nat → Int32)} {al : Bool} {n : Nat} {Q : Option Value → Mem → Prop} {R : Unit → Mem → Prop} (hR : ∀ v M, R v M → Q none M) {a0 : Nat} {M : Mem} (h : T_X8_putBlank_0 R False n a0 M) : AW X (RX8, cX8_putBlank, 1, none, false, al, n) 0 0 0 [(0, .ref a0)] [] M Q := by
  unfold T_X8_putBlank_0 at h
  refine a_aload_n dX8_putBlank_0 rfl rfl ?_
  obtain ⟨⟨ga1, gs2⟩, h⟩ := gd_t h
  refine a_get (v := .long (M.2.2.2.1 a0 3)) dX8_putBlank_1 fl_8_23 ga1 gs2 rfl ?_
  refine a_lconst (v := 0) dX8_putBlank_4 (by decide) ?_
  refine a_lcmp dX8_putBlank_5 ?_
  refine a_if_le 37 dX8_putBlank_6 (by decide) (fun c3 => ?_) (fun c3 => ?_)
  · replace h := ite_t c3 h
    exact a_vret dX8_putBlank_37 rfl (hR _ _ h)
  · replace h := ite_f c3 h
    refine a_aload_n dX8_putBlank_9 rfl rfl ?_
    refine a_get (v := .long (M.2.2.2.1 a0 3)) dX8_putBlank_10 fl_8_23 ga1 gs2 rfl ?_
    refine a_aload_n dX8_putBlank_13 rfl rfl ?_
    refine a_get (v := .long (M.2.2.2.1 a0 2)) dX8_putBlank_14 fl_8_19 ga1 gs2 rfl ?_
    refine a_lcmp dX8_putBlank_17 ?_
    refine a_if_ne 27 dX8_putBlank_18 (by decide) (fun c4 => ?_) (fun c4 => ?_)
    · replace h := ite_f c4 h
      refine a_aload_n dX8_putBlank_27 rfl rfl ?_
      refine a_dup dX8_putBlank_28 rfl ?_
      refine a_get (v := .long (M.2.2.2.1 a0 3)) dX8_putBlank_29 fl_8_23 ga1 gs2 rfl ?_
      refine a_lconst (v := 1) dX8_putBlank_32 (by decide) ?_
      refine a_ladd dX8_putBlank_33 ?_
      refine a_putJ dX8_putBlank_34 (Or.inl ⟨fl_8_23, Or.inl rfl⟩) rfl ga1 gs2 ?_
      exact a_vret dX8_putBlank_37 rfl (hR _ _ h)
    · replace h := ite_t c4 h
      refine a_aload_n dX8_putBlank_21 rfl rfl ?_
      refine a_bipush (v := 32) dX8_putBlank_22 (by decide) ?_
      refine a_putI dX8_putBlank_24 (Or.inl ⟨fl_8_26, Or.inl rfl⟩) rfl ga1 gs2 rfl rfl ?_
      refine a_aload_n dX8_putBlank_27 rfl rfl ?_
      refine a_dup dX8_putBlank_28 rfl ?_
      refine a_get (v := .long (M.2.2.2.1 a0 3)) dX8_putBlank_29 fl_8_23 ga1 gs2 rfl ?_
      refine a_lconst (v := 1) dX8_putBlank_32 (by decide) ?_
      refine a_ladd dX8_putBlank_33 ?_
      refine a_putJ dX8_putBlank_34 (Or.inl ⟨fl_8_23, Or.inl rfl⟩) rfl ga1 gs2 ?_
      exact a_vret dX8_putBlank_37 rfl (hR _ _ h)
noncomputable def b_X8_putBlank (n : Nat) (a0 : Nat) (M : Mem) : Option (Unit × Mem) := T_X8_putBlank_0 (fun v M => some (v, M)) none n a0 M
set_option maxHeartbeats 4000000 in
set_option maxRecDepth 100000 in
theorem sb_X8_putBlank {X : Nat × (Nat → Int32)} {al : Bool} {n : Nat} {a0 : Nat} {M : Mem} {v : Unit} {M1 : Mem} (h : b_X8_putBlank n a0 M = some (v, M1)) : AE yX8_putBlank cX8_putBlank 1 none al n X [.ref a0] M none M1 := by
  refine AM.of false (by decide +kernel) (by intro h; cases h) (Nat.le_of_ble_eq_true rfl) ?_
  have h2 : T_X8_putBlank_0 (fun v2 M2 => some (v2, M2) = some (v, M1)) (none = some (v, M1)) n a0 M := (n_X8_putBlank_0 (fun o => o = some (v, M1)) (fun v M => some (v, M)) none n a0 M).mp h
  have h3 : ((none : Option (Unit × Mem)) = some (v, M1)) = False := eq_false (by intro q; cases q)
  rw [h3] at h2
  exact w_X8_putBlank_0 (fun v2 M2 h => by cases h; exact ⟨rfl, rfl⟩) h2

noncomputable abbrev f_X8_putBlank := b_X8_putBlank
theorem s_X8_putBlank {X : Nat × (Nat → Int32)} {al : Bool} {n : Nat} {a0 : Nat} {M : Mem} {v : Unit} {M1 : Mem} (h : f_X8_putBlank n a0 M = some (v, M1)) : AE yX8_putBlank cX8_putBlank 1 none al n X [.ref a0] M none M1 := sb_X8_putBlank h
