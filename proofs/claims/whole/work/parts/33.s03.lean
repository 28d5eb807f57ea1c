/-! METHODS AS FUNCTIONS, written by wip/gen/shallow.py -/
def ix_X6_readHypotheses (c : Nat) : List Nat := if c = 0 then [0, 1] else if c = 14 then [0, 2] else []
def PW_X6_readHypotheses (X : Nat × (Nat → Int32)) (al : Bool) (n : Nat) (Q : Option Value → Mem → Prop) (c : Nat) (l : List Value) (M : Mem) : Prop := AW X (RX6, cX6_readHypotheses, 3, (some .boolean), false, al, n) 0 0 c (List.zip (ix_X6_readHypotheses c) l) (l.drop (ix_X6_readHypotheses c).length) M Q
set_option maxHeartbeats 4000000 in
set_option maxRecDepth 100000 in
noncomputable def T_X6_readHypotheses_0.{u} {α : Sort u} (J : Nat → List Value → Mem → α) (R : Int32 → Mem → α) (N : α) (n : Nat) (a0 : Nat) (x1 : Int32) (M : Mem) : α := gd (fO M a0 6) N (bnd2 (cal n (fun n => f_X6_begin n a0 x1 M)) N (fun _ M3 => gd (fO M3 a0 6) N (bnd (M3.2.2.2.2 a0 3) N (fun r9 => gd (fO M3 r9 2) N (bnd2 (cal n (fun n => f_X2_clear n r9 M3)) N (fun _ M13 => J 14 [.ref a0, .int 0] M13))))))
set_option maxHeartbeats 4000000 in
set_option maxRecDepth 100000 in
theorem n_X6_readHypotheses_0.{u, v} {α : Sort u} {β : Sort v} (h : α → β) (J : Nat → List Value → Mem → α) (R : Int32 → Mem → α) (N : α) (n : Nat) (a0 : Nat) (x1 : Int32) (M : Mem) : h (T_X6_readHypotheses_0 J R N n a0 x1 M) = T_X6_readHypotheses_0 (fun c l M => h (J c l M)) (fun v M => h (R v M)) (h N) n a0 x1 M := by
  simp only [T_X6_readHypotheses_0, nat_ite h, nat_gd h, nat_bnd h, nat_bnd2 h]
set_option maxHeartbeats 4000000 in
set_option maxRecDepth 100000 in
theorem w_X6_readHypotheses_0 {X : Nat × (Nat → Int32)} {al : Bool} {n : Nat} {Q : Option Value → Mem → Prop} {J : Nat → List Value → Mem → Prop} (hJ : ∀ c l M, J c l M → PW_X6_readHypotheses X al n Q c l M) {R : Int32 → Mem → Prop} (hR : ∀ v M, R v M → Q (some (.int v)) M) {a0 : Nat} {x1 : Int32} {M : Mem} (h : T_X6_readHypotheses_0 J R False n a0 x1 M) : AW X (RX6, cX6_readHypotheses, 3, (some .boolean), false, al, n) 0 0 0 [(0, .ref a0), (1, .int x1)] [] M Q := by
  unfold T_X6_readHypotheses_0 at h
  refine a_aload_n dX6_readHypotheses_0 rfl rfl ?_
  refine a_iload_n dX6_readHypotheses_1 rfl rfl ?_
  obtain ⟨⟨ga1, gs2⟩, h⟩ := gd_t h
  obtain ⟨_, M3, e4, h⟩ := bnd2_t h
  obtain ⟨n5, en6, e4⟩ := cal_t e4
  refine e_callV (As := [.int x1]) (st := []) (a := a0) (ci := 6) false dX6_readHypotheses_2 mw_X6_begin (Or.inl ⟨rfl, ml_X6_90⟩) im_X6_begin se_X6_begin (by decide) ga1 gs2 rfl (Nat.le_of_ble_eq_true rfl) en6 (s_X6_begin e4) ?_
  refine a_aload_n dX6_readHypotheses_5 rfl rfl ?_
  obtain ⟨⟨ga7, gs8⟩, h⟩ := gd_t h
  obtain ⟨r9, e10, h⟩ := bnd_t h
  refine a_get (v := .ref r9) dX6_readHypotheses_6 fl_6_18 ga7 gs8 (gvR e10 rfl) ?_
  obtain ⟨⟨ga11, gs12⟩, h⟩ := gd_t h
  obtain ⟨_, M13, e14, h⟩ := bnd2_t h
  obtain ⟨n15, en16, e14⟩ := cal_t e14
  refine e_callV (As := []) (st := []) (a := r9) (ci := 2) false dX6_readHypotheses_9 mw_X2_clear (Or.inl ⟨rfl, ml_X6_94⟩) im_X2_clear se_X2_clear (by decide) ga11 gs12 rfl (Nat.le_of_ble_eq_true rfl) en16 (s_X2_clear e14) ?_
  refine a_iconst (v := 0) dX6_readHypotheses_12 (by decide) ?_
  refine a_istore_n dX6_readHypotheses_13 rfl (Nat.le_of_ble_eq_true rfl) (lv2 := [(2, .int 0), (0, .ref a0), (1, .int x1)]) rfl ?_
  exact a_lv (lv2 := [(0, .ref a0), (2, .int 0)]) (fa_cons rfl (fa_cons rfl fa_nil)) (hJ _ _ _ h)
set_option maxHeartbeats 4000000 in
set_option maxRecDepth 100000 in
noncomputable def T_X6_readHypotheses_14.{u} {α : Sort u} (J : Nat → List Value → Mem → α) (R : Int32 → Mem → α) (N : α) (n : Nat) (a0 : Nat) (x2 : Int32) (M : Mem) : α := if 6 < x2 then R 0 M else gd (fO M a0 6) N (bnd2 (cal n (fun n => f_X6_advance n a0 M)) N (fun _ M4 => gd (fO M4 a0 6) N (if (M4.2.2.1 a0 13) = (-3) then R 1 M4 else bnd2 (cal n (fun n => f_X6_readHypothesis n a0 M4)) N (fun v11 M12 => if v11 = 0 then R 0 M12 else J 14 [.ref a0, .int (x2 + 1)] M12))))
set_option maxHeartbeats 4000000 in
set_option maxRecDepth 100000 in
theorem n_X6_readHypotheses_14.{u, v} {α : Sort u} {β : Sort v} (h : α → β) (J : Nat → List Value → Mem → α) (R : Int32 → Mem → α) (N : α) (n : Nat) (a0 : Nat) (x2 : Int32) (M : Mem) : h (T_X6_readHypotheses_14 J R N n a0 x2 M) = T_X6_readHypotheses_14 (fun c l M => h (J c l M)) (fun v M => h (R v M)) (h N) n a0 x2 M := by
  simp only [T_X6_readHypotheses_14, nat_ite h, nat_gd h, nat_bnd h, nat_bnd2 h]
set_option maxHeartbeats 4000000 in
set_option maxRecDepth 100000 in
theorem w_X6_readHypotheses_14 {X : Nat × (Nat → Int32)} {al : Bool} {n : Nat} {Q : Option Value → Mem → Prop} {J : Nat → List Value → Mem → Prop} (hJ : ∀ c l M, J c l M → PW_X6_readHypotheses X al n Q c l M) {R : Int32 → Mem → Prop} (hR : ∀ v M, R v M → Q (some (.int v)) M) {a0 : Nat} {x2 : Int32} {M : Mem} (h : T_X6_readHypotheses_14 J R False n a0 x2 M) : AW X (RX6, cX6_readHypotheses, 3, (some .boolean), false, al, n) 0 0 14 [(0, .ref a0), (2, .int x2)] [] M Q := by
  unfold T_X6_readHypotheses_14 at h
  refine a_iload_n dX6_readHypotheses_14 rfl rfl ?_
  refine a_bipush (v := 6) dX6_readHypotheses_15 (by decide) ?_
  refine a_icmp_gt 50 dX6_readHypotheses_17 (by decide) (fun c1 => ?_) (fun c1 => ?_)
  · replace h := ite_t c1 h
    refine a_iconst (v := 0) dX6_readHypotheses_50 (by decide) ?_
    exact a_zret dX6_readHypotheses_51 rfl rfl (hR _ _ h)
  · replace h := ite_f c1 h
    refine a_aload_n dX6_readHypotheses_20 rfl rfl ?_
    obtain ⟨⟨ga2, gs3⟩, h⟩ := gd_t h
    obtain ⟨_, M4, e5, h⟩ := bnd2_t h
    obtain ⟨n6, en7, e5⟩ := cal_t e5
    refine e_callV (As := []) (st := []) (a := a0) (ci := 6) false dX6_readHypotheses_21 mw_X6_advance (Or.inl ⟨rfl, ml_X6_97⟩) im_X6_advance se_X6_advance (by decide) ga2 gs3 rfl (Nat.le_of_ble_eq_true rfl) en7 (s_X6_advance e5) ?_
    refine a_aload_n dX6_readHypotheses_24 rfl rfl ?_
    obtain ⟨⟨ga8, gs9⟩, h⟩ := gd_t h
    refine a_get (v := .int (M4.2.2.1 a0 13)) dX6_readHypotheses_25 fl_6_75 ga8 gs9 rfl ?_
    refine a_bipush (v := -3) dX6_readHypotheses_28 (by decide) ?_
    refine a_icmp_ne 35 dX6_readHypotheses_30 (by decide) (fun c10 => ?_) (fun c10 => ?_)
    · replace h := ite_f c10 h
      refine a_aload_n dX6_readHypotheses_35 rfl rfl ?_
      obtain ⟨v11, M12, e13, h⟩ := bnd2_t h
      obtain ⟨n14, en15, e13⟩ := cal_t e13
      refine e_callV (As := []) (st := []) (a := a0) (ci := 6) false dX6_readHypotheses_36 mw_X6_readHypothesis (Or.inl ⟨rfl, ml_X6_100⟩) im_X6_readHypothesis se_X6_readHypothesis (by decide) ga8 gs9 rfl (Nat.le_of_ble_eq_true rfl) en15 (s_X6_readHypothesis e13) ?_
      refine a_if_ne 44 dX6_readHypotheses_39 (by decide) (fun c16 => ?_) (fun c16 => ?_)
      · replace h := ite_f c16 h
        refine a_iinc (v := (x2 + 1)) dX6_readHypotheses_44 rfl (by first | rfl | decide) (Nat.le_of_ble_eq_true rfl) (lv2 := [(2, .int (x2 + 1)), (0, .ref a0)]) rfl ?_
        refine a_goto 14 dX6_readHypotheses_47 (by decide) ?_
        exact a_lv (lv2 := [(0, .ref a0), (2, .int (x2 + 1))]) (fa_cons rfl (fa_cons rfl fa_nil)) (hJ _ _ _ h)
      · replace h := ite_t c16 h
        refine a_iconst (v := 0) dX6_readHypotheses_42 (by decide) ?_
        exact a_zret dX6_readHypotheses_43 rfl rfl (hR _ _ h)
    · replace h := ite_t c10 h
      refine a_iconst (v := 1) dX6_readHypotheses_33 (by decide) ?_
      exact a_zret dX6_readHypotheses_34 rfl rfl (hR _ _ h)
set_option maxHeartbeats 4000000 in
set_option maxRecDepth 100000 in
noncomputable def st_X6_readHypotheses (n : Nat) (s : Sg) : Option (Sg ⊕ (Int32 × Mem)) := if s.1 = 0 then vR s.2.1 none (fun a0 t => vI t none (fun x1 t => vE t none (T_X6_readHypotheses_0 (fun c l M => some (.inl (c, l, M))) (fun v M => some (.inr (v, M))) none n a0 x1 s.2.2))) else if s.1 = 14 then vR s.2.1 none (fun a0 t => vI t none (fun x2 t => vE t none (T_X6_readHypotheses_14 (fun c l M => some (.inl (c, l, M))) (fun v M => some (.inr (v, M))) none n a0 x2 s.2.2))) else none
noncomputable abbrev g_X6_readHypotheses_0 (n : Nat) (a0 : Nat) (x1 : Int32) (M : Mem) : Option (Int32 × Mem) := lp (st_X6_readHypotheses n) (0, [.ref a0, .int x1], M)
set_option maxHeartbeats 4000000 in
set_option maxRecDepth 100000 in
theorem ge_X6_readHypotheses_0 (n : Nat) (a0 : Nat) (x1 : Int32) (M : Mem) : g_X6_readHypotheses_0 n a0 x1 M = T_X6_readHypotheses_0 (fun c l M => lp (st_X6_readHypotheses n) (c, l, M)) (fun v M => some (v, M)) none n a0 x1 M := (lp_eq _ _).trans (n_X6_readHypotheses_0 (lpK (st_X6_readHypotheses n)) (fun c l M => some (.inl (c, l, M))) (fun v M => some (.inr (v, M))) none n a0 x1 M)
noncomputable abbrev g_X6_readHypotheses_14 (n : Nat) (a0 : Nat) (x2 : Int32) (M : Mem) : Option (Int32 × Mem) := lp (st_X6_readHypotheses n) (14, [.ref a0, .int x2], M)
set_option maxHeartbeats 4000000 in
set_option maxRecDepth 100000 in
theorem ge_X6_readHypotheses_14 (n : Nat) (a0 : Nat) (x2 : Int32) (M : Mem) : g_X6_readHypotheses_14 n a0 x2 M = T_X6_readHypotheses_14 (fun c l M => lp (st_X6_readHypotheses n) (c, l, M)) (fun v M => some (v, M)) none n a0 x2 M := (lp_eq _ _).trans (n_X6_readHypotheses_14 (lpK (st_X6_readHypotheses n)) (fun c l M => some (.inl (c, l, M))) (fun v M => some (.inr (v, M))) none n a0 x2 M)
noncomputable def b_X6_readHypotheses (n : Nat) (a0 : Nat) (x1 : Int32) (M : Mem) : Option (Int32 × Mem) := g_X6_readHypotheses_0 n a0 x1 M
set_option maxHeartbeats 4000000 in
set_option maxRecDepth 100000 in
theorem sb_X6_readHypotheses {X : Nat × (Nat → Int32)} {al : Bool} {n : Nat} {a0 : Nat} {x1 : Int32} {M : Mem} {v : Int32} {M1 : Mem} (h : b_X6_readHypotheses n a0 x1 M = some (v, M1)) : AE yX6_readHypotheses cX6_readHypotheses 3 (some .boolean) al n X [.ref a0, .int x1] M (some (.int v)) M1 := by
  refine AM.of false (by decide +kernel) (by intro h; cases h) (Nat.le_of_ble_eq_true rfl) ?_
  refine lp_snd (P := fun s r => PW_X6_readHypotheses X al n (fun v M2 => v = (some (.int r.1)) ∧ M2 = r.2) s.1 s.2.1 s.2.2) ?_ h
  clear h
  rintro ⟨c, l, M⟩ r h
  unfold st_X6_readHypotheses at h
  rcases ite_p h with ⟨e, h⟩ | ⟨e, h⟩
  · replace e : c = 0 := e
    subst e
    obtain ⟨a0, tt0, e, h⟩ := vR_p id h
    replace e : l = _ := e
    subst e
    obtain ⟨x1, tt1, e, h⟩ := vI_p id h
    replace e : tt0 = _ := e
    subst e
    obtain ⟨e, h⟩ := vE_p id h
    replace e : tt1 = [] := e
    subst e
    exact w_X6_readHypotheses_0 (J := fun c l M => PW_X6_readHypotheses X al n (fun v M2 => v = (some (.int r.1)) ∧ M2 = r.2) c l M) (R := fun v M => (v, M) = r) (fun _ _ _ h => h) (fun v M h => by cases h; exact ⟨rfl, rfl⟩) ((n_X6_readHypotheses_0 (lpP (fun (s : Sg) (r : Int32 × Mem) => PW_X6_readHypotheses X al n (fun v M2 => v = (some (.int r.1)) ∧ M2 = r.2) s.1 s.2.1 s.2.2) r) (fun c l M => some (.inl (c, l, M))) (fun v M => some (.inr (v, M))) none n a0 x1 M).mp h)
  rcases ite_p h with ⟨e, h⟩ | ⟨e, h⟩
  · replace e : c = 14 := e
    subst e
    obtain ⟨a0, tt0, e, h⟩ := vR_p id h
    replace e : l = _ := e
    subst e
    obtain ⟨x2, tt1, e, h⟩ := vI_p id h
    replace e : tt0 = _ := e
    subst e
    obtain ⟨e, h⟩ := vE_p id h
    replace e : tt1 = [] := e
    subst e
    exact w_X6_readHypotheses_14 (J := fun c l M => PW_X6_readHypotheses X al n (fun v M2 => v = (some (.int r.1)) ∧ M2 = r.2) c l M) (R := fun v M => (v, M) = r) (fun _ _ _ h => h) (fun v M h => by cases h; exact ⟨rfl, rfl⟩) ((n_X6_readHypotheses_14 (lpP (fun (s : Sg) (r : Int32 × Mem) => PW_X6_readHypotheses X al n (fun v M2 => v = (some (.int r.1)) ∧ M2 = r.2) s.1 s.2.1 s.2.2) r) (fun c l M => some (.inl (c, l, M))) (fun v M => some (.inr (v, M))) none n a0 x2 M).mp h)
  · exact h.elim

noncomputable abbrev f_X6_readHypotheses := b_X6_readHypotheses
theorem s_X6_readHypotheses {X : Nat × (Nat → Int32)} {al : Bool} {n : Nat} {a0 : Nat} {x1 : Int32} {M : Mem} {v : Int32} {M1 : Mem} (h : f_X6_readHypotheses n a0 x1 M = some (v, M1)) : AE yX6_readHypotheses cX6_readHypotheses 3 (some .boolean) al n X [.ref a0, .int x1] M (some (.int v)) M1 := sb_X6_readHypotheses h
def ix_X2_takeOver (c : Nat) : List Nat := if c = 0 then [0, 1] else if c = 6 then [0, 1, 2] else []
def PW_X2_takeOver (X : Nat × (Nat → Int32)) (al : Bool) (n : Nat) (Q : Option Value → Mem → Prop) (c : Nat) (l : List Value) (M : Mem) : Prop := AW X (RX2, cX2_takeOver, 3, none, false, al, n) 0 0 c (List.zip (ix_X2_takeOver c) l) (l.drop (ix_X2_takeOver c).length) M Q
set_option maxHeartbeats 4000000 in
set_option maxRecDepth 100000 in
noncomputable def T_X2_takeOver_0.{u} {α : Sort u} (J : Nat → List Value → Mem → α) (R : Unit → Mem → α) (N : α) (n : Nat) (a0 : Nat) (a1 : Nat) (M : Mem) : α := gd (fO M a0 2) N (bnd2 (cal n (fun n => f_X2_clear n a0 M)) N (fun _ M3 => J 6 [.ref a0, .ref a1, .int 0] M3))
set_option maxHeartbeats 4000000 in
set_option maxRecDepth 100000 in
theorem n_X2_takeOver_0.{u, v} {α : Sort u} {β : Sort v} (h : α → β) (J : Nat → List Value → Mem → α) (R : Unit → Mem → α) (N : α) (n : Nat) (a0 : Nat) (a1 : Nat) (M : Mem) : h (T_X2_takeOver_0 J R N n a0 a1 M) = T_X2_takeOver_0 (fun c l M => h (J c l M)) (fun v M => h (R v M)) (h N) n a0 a1 M := by
  simp only [T_X2_takeOver_0, nat_ite h, nat_gd h, nat_bnd h, nat_bnd2 h]
set_option maxHeartbeats 4000000 in
set_option maxRecDepth 100000 in
theorem w_X2_takeOver_0 {X : Nat × (Nat → Int32)} {al : Bool} {n : Nat} {Q : Option Value → Mem → Prop} {J : Nat → List Value → Mem → Prop} (hJ : ∀ c l M, J c l M → PW_X2_takeOver X al n Q c l M) {R : Unit → Mem → Prop} (hR : ∀ v M, R v M → Q none M) {a0 : Nat} {a1 : Nat} {M : Mem} (h : T_X2_takeOver_0 J R False n a0 a1 M) : AW X (RX2, cX2_takeOver, 3, none, false, al, n) 0 0 0 [(0, .ref a0), (1, .ref a1)] [] M Q := by
  unfold T_X2_takeOver_0 at h
  refine a_aload_n dX2_takeOver_0 rfl rfl ?_
  obtain ⟨⟨ga1, gs2⟩, h⟩ := gd_t h
  obtain ⟨_, M3, e4, h⟩ := bnd2_t h
  obtain ⟨n5, en6, e4⟩ := cal_t e4
  refine e_callV (As := []) (st := []) (a := a0) (ci := 2) false dX2_takeOver_1 mw_X2_clear (Or.inl ⟨rfl, ml_X2_25⟩) im_X2_clear se_X2_clear (by decide) ga1 gs2 rfl (Nat.le_of_ble_eq_true rfl) en6 (s_X2_clear e4) ?_
  refine a_iconst (v := 0) dX2_takeOver_4 (by decide) ?_
  refine a_istore_n dX2_takeOver_5 rfl (Nat.le_of_ble_eq_true rfl) (lv2 := [(2, .int 0), (0, .ref a0), (1, .ref a1)]) rfl ?_
  exact a_lv (lv2 := [(0, .ref a0), (1, .ref a1), (2, .int 0)]) (fa_cons rfl (fa_cons rfl (fa_cons rfl fa_nil))) (hJ _ _ _ h)
set_option maxHeartbeats 4000000 in
set_option maxRecDepth 100000 in
noncomputable def T_X2_takeOver_6.{u} {α : Sort u} (J : Nat → List Value → Mem → α) (R : Unit → Mem → α) (N : α) (n : Nat) (a0 : Nat) (a1 : Nat) (x2 : Int32) (M : Mem) : α := gd (fO M a1 2) N (if (M.2.2.1 a1 3) ≤ x2 then R () M else if 6 ≤ x2 then R () M else bnd (M.2.2.2.2 a1 0) N (fun r5 => gd (fA M r5 1 x2) N (bnd (M.2.2.2.2 a1 1) N (fun r11 => gd (fA M r11 1 x2) N (bnd (M.2.2.2.2 a1 2) N (fun r17 => gd (fA M r17 1 x2) N (gd (fO M a0 2) N (bnd2 (cal n (fun n => f_X2_add n a0 (M.2.2.1 r5 (x2.toNatClampNeg)) (M.2.2.1 r11 (x2.toNatClampNeg)) (M.2.2.1 r17 (x2.toNatClampNeg)) M)) N (fun _ M25 => J 6 [.ref a0, .ref a1, .int (x2 + 1)] M25)))))))))
set_option maxHeartbeats 4000000 in
set_option maxRecDepth 100000 in
theorem n_X2_takeOver_6.{u, v} {α : Sort u} {β : Sort v} (h : α → β) (J : Nat → List Value → Mem → α) (R : Unit → Mem → α) (N : α) (n : Nat) (a0 : Nat) (a1 : Nat) (x2 : Int32) (M : Mem) : h (T_X2_takeOver_6 J R N n a0 a1 x2 M) = T_X2_takeOver_6 (fun c l M => h (J c l M)) (fun v M => h (R v M)) (h N) n a0 a1 x2 M := by
  simp only [T_X2_takeOver_6, nat_ite h, nat_gd h, nat_bnd h, nat_bnd2 h]
set_option maxHeartbeats 4000000 in
set_option maxRecDepth 100000 in
theorem w_X2_takeOver_6 {X : Nat × (Nat → Int32)} {al : Bool} {n : Nat} {Q : Option Value → Mem → Prop} {J : Nat → List Value → Mem → Prop} (hJ : ∀ c l M, J c l M → PW_X2_takeOver X al n Q c l M) {R : Unit → Mem → Prop} (hR : ∀ v M, R v M → Q none M) {a0 : Nat} {a1 : Nat} {x2 : Int32} {M : Mem} (h : T_X2_takeOver_6 J R False n a0 a1 x2 M) : AW X (RX2, cX2_takeOver, 3, none, false, al, n) 0 0 6 [(0, .ref a0), (1, .ref a1), (2, .int x2)] [] M Q := by
  unfold T_X2_takeOver_6 at h
  refine a_iload_n dX2_takeOver_6 rfl rfl ?_
  refine a_aload_n dX2_takeOver_7 rfl rfl ?_
  obtain ⟨⟨ga1, gs2⟩, h⟩ := gd_t h
  refine a_get (v := .int (M.2.2.1 a1 3)) dX2_takeOver_8 fl_2_21 ga1 gs2 rfl ?_
  refine a_icmp_ge 48 dX2_takeOver_11 (by decide) (fun c3 => ?_) (fun c3 => ?_)
  · replace h := ite_t c3 h
    exact a_vret dX2_takeOver_48 rfl (hR _ _ h)
  · replace h := ite_f c3 h
    refine a_iload_n dX2_takeOver_14 rfl rfl ?_
    refine a_bipush (v := 6) dX2_takeOver_15 (by decide) ?_
    refine a_icmp_ge 48 dX2_takeOver_17 (by decide) (fun c4 => ?_) (fun c4 => ?_)
    · replace h := ite_t c4 h
      exact a_vret dX2_takeOver_48 rfl (hR _ _ h)
    · replace h := ite_f c4 h
      refine a_aload_n dX2_takeOver_20 rfl rfl ?_
      refine a_aload_n dX2_takeOver_21 rfl rfl ?_
      obtain ⟨r5, e6, h⟩ := bnd_t h
      refine a_get (v := .ref r5) dX2_takeOver_22 fl_2_9 ga1 gs2 (gvR e6 rfl) ?_
      refine a_iload_n dX2_takeOver_25 rfl rfl ?_
      obtain ⟨⟨ga7, gn8, gs9, gi10⟩, h⟩ := gd_t h
      refine a_iaload dX2_takeOver_26 ga7 gs9 gi10 ?_
      refine a_aload_n dX2_takeOver_27 rfl rfl ?_
      obtain ⟨r11, e12, h⟩ := bnd_t h
      refine a_get (v := .ref r11) dX2_takeOver_28 fl_2_15 ga1 gs2 (gvR e12 rfl) ?_
      refine a_iload_n dX2_takeOver_31 rfl rfl ?_
      obtain ⟨⟨ga13, gn14, gs15, gi16⟩, h⟩ := gd_t h
      refine a_iaload dX2_takeOver_32 ga13 gs15 gi16 ?_
      refine a_aload_n dX2_takeOver_33 rfl rfl ?_
      obtain ⟨r17, e18, h⟩ := bnd_t h
      refine a_get (v := .ref r17) dX2_takeOver_34 fl_2_18 ga1 gs2 (gvR e18 rfl) ?_
      refine a_iload_n dX2_takeOver_37 rfl rfl ?_
      obtain ⟨⟨ga19, gn20, gs21, gi22⟩, h⟩ := gd_t h
      refine a_iaload dX2_takeOver_38 ga19 gs21 gi22 ?_
      obtain ⟨⟨ga23, gs24⟩, h⟩ := gd_t h
      obtain ⟨_, M25, e26, h⟩ := bnd2_t h
      obtain ⟨n27, en28, e26⟩ := cal_t e26
      refine e_callV (As := [.int (M.2.2.1 r5 (x2.toNatClampNeg)), .int (M.2.2.1 r11 (x2.toNatClampNeg)), .int (M.2.2.1 r17 (x2.toNatClampNeg))]) (st := []) (a := a0) (ci := 2) false dX2_takeOver_39 mw_X2_add (Or.inl ⟨rfl, ml_X2_28⟩) im_X2_add se_X2_add (by decide) ga23 gs24 rfl (Nat.le_of_ble_eq_true rfl) en28 (s_X2_add e26) ?_
      refine a_iinc (v := (x2 + 1)) dX2_takeOver_42 rfl (by first | rfl | decide) (Nat.le_of_ble_eq_true rfl) (lv2 := [(2, .int (x2 + 1)), (0, .ref a0), (1, .ref a1)]) rfl ?_
      refine a_goto 6 dX2_takeOver_45 (by decide) ?_
      exact a_lv (lv2 := [(0, .ref a0), (1, .ref a1), (2, .int (x2 + 1))]) (fa_cons rfl (fa_cons rfl (fa_cons rfl fa_nil))) (hJ _ _ _ h)
set_option maxHeartbeats 4000000 in
set_option maxRecDepth 100000 in
noncomputable def st_X2_takeOver (n : Nat) (s : Sg) : Option (Sg ⊕ (Unit × Mem)) := if s.1 = 0 then vR s.2.1 none (fun a0 t => vR t none (fun a1 t => vE t none (T_X2_takeOver_0 (fun c l M => some (.inl (c, l, M))) (fun v M => some (.inr (v, M))) none n a0 a1 s.2.2))) else if s.1 = 6 then vR s.2.1 none (fun a0 t => vR t none (fun a1 t => vI t none (fun x2 t => vE t none (T_X2_takeOver_6 (fun c l M => some (.inl (c, l, M))) (fun v M => some (.inr (v, M))) none n a0 a1 x2 s.2.2)))) else none
noncomputable abbrev g_X2_takeOver_0 (n : Nat) (a0 : Nat) (a1 : Nat) (M : Mem) : Option (Unit × Mem) := lp (st_X2_takeOver n) (0, [.ref a0, .ref a1], M)
set_option maxHeartbeats 4000000 in
set_option maxRecDepth 100000 in
theorem ge_X2_takeOver_0 (n : Nat) (a0 : Nat) (a1 : Nat) (M : Mem) : g_X2_takeOver_0 n a0 a1 M = T_X2_takeOver_0 (fun c l M => lp (st_X2_takeOver n) (c, l, M)) (fun v M => some (v, M)) none n a0 a1 M := (lp_eq _ _).trans (n_X2_takeOver_0 (lpK (st_X2_takeOver n)) (fun c l M => some (.inl (c, l, M))) (fun v M => some (.inr (v, M))) none n a0 a1 M)
noncomputable abbrev g_X2_takeOver_6 (n : Nat) (a0 : Nat) (a1 : Nat) (x2 : Int32) (M : Mem) : Option (Unit × Mem) := lp (st_X2_takeOver n) (6, [.ref a0, .ref a1, .int x2], M)
set_option maxHeartbeats 4000000 in
set_option maxRecDepth 100000 in
theorem ge_X2_takeOver_6 (n : Nat) (a0 : Nat) (a1 : Nat) (x2 : Int32) (M : Mem) : g_X2_takeOver_6 n a0 a1 x2 M = T_X2_takeOver_6 (fun c l M => lp (st_X2_takeOver n) (c, l, M)) (fun v M => some (v, M)) none n a0 a1 x2 M := (lp_eq _ _).trans (n_X2_takeOver_6 (lpK (st_X2_takeOver n)) (fun c l M => some (.inl (c, l, M))) (fun v M => some (.inr (v, M))) none n a0 a1 x2 M)
noncomputable def b_X2_takeOver (n : Nat) (a0 : Nat) (a1 : Nat) (M : Mem) : Option (Unit × Mem) := g_X2_takeOver_0 n a0 a1 M
set_option maxHeartbeats 4000000 in
set_option maxRecDepth 100000 in
theorem sb_X2_takeOver {X : Nat × (Nat → Int32)} {al : Bool} {n : Nat} {a0 : Nat} {a1 : Nat} {M : Mem} {v : Unit} {M1 : Mem} (h : b_X2_takeOver n a0 a1 M = some (v, M1)) : AE yX2_takeOver cX2_takeOver 3 none al n X [.ref a0, .ref a1] M none M1 := by
  refine AM.of false (by decide +kernel) (by intro h; cases h) (Nat.le_of_ble_eq_true rfl) ?_
  refine lp_snd (P := fun s r => PW_X2_takeOver X al n (fun v M2 => v = none ∧ M2 = r.2) s.1 s.2.1 s.2.2) ?_ h
  clear h
  rintro ⟨c, l, M⟩ r h
  unfold st_X2_takeOver at h
  rcases ite_p h with ⟨e, h⟩ | ⟨e, h⟩
  · replace e : c = 0 := e
    subst e
    obtain ⟨a0, tt0, e, h⟩ := vR_p id h
    replace e : l = _ := e
    subst e
    obtain ⟨a1, tt1, e, h⟩ := vR_p id h
    replace e : tt0 = _ := e
    subst e
    obtain ⟨e, h⟩ := vE_p id h
    replace e : tt1 = [] := e
    subst e
    exact w_X2_takeOver_0 (J := fun c l M => PW_X2_takeOver X al n (fun v M2 => v = none ∧ M2 = r.2) c l M) (R := fun v M => (v, M) = r) (fun _ _ _ h => h) (fun v M h => by cases h; exact ⟨rfl, rfl⟩) ((n_X2_takeOver_0 (lpP (fun (s : Sg) (r : Unit × Mem) => PW_X2_takeOver X al n (fun v M2 => v = none ∧ M2 = r.2) s.1 s.2.1 s.2.2) r) (fun c l M => some (.inl (c, l, M))) (fun v M => some (.inr (v, M))) none n a0 a1 M).mp h)
  rcases ite_p h with ⟨e, h⟩ | ⟨e, h⟩
  · replace e : c = 6 := e
    subst e
    obtain ⟨a0, tt0, e, h⟩ := vR_p id h
    replace e : l = _ := e
    subst e
    obtain ⟨a1, tt1, e, h⟩ := vR_p id h
    replace e : tt0 = _ := e
    subst e
    obtain ⟨x2, tt2, e, h⟩ := vI_p id h
    replace e : tt1 = _ := e
    subst e
    obtain ⟨e, h⟩ := vE_p id h
    replace e : tt2 = [] := e
    subst e
    exact w_X2_takeOver_6 (J := fun c l M => PW_X2_takeOver X al n (fun v M2 => v = none ∧ M2 = r.2) c l M) (R := fun v M => (v, M) = r) (fun _ _ _ h => h) (fun v M h => by cases h; exact ⟨rfl, rfl⟩) ((n_X2_takeOver_6 (lpP (fun (s : Sg) (r : Unit × Mem) => PW_X2_takeOver X al n (fun v M2 => v = none ∧ M2 = r.2) s.1 s.2.1 s.2.2) r) (fun c l M => some (.inl (c, l, M))) (fun v M => some (.inr (v, M))) none n a0 a1 x2 M).mp h)
  · exact h.elim

noncomputable abbrev f_X2_takeOver := b_X2_takeOver
theorem s_X2_takeOver {X : Nat × (Nat → Int32)} {al : Bool} {n : Nat} {a0 : Nat} {a1 : Nat} {M : Mem} {v : Unit} {M1 : Mem} (h : f_X2_takeOver n a0 a1 M = some (v, M1)) : AE yX2_takeOver cX2_takeOver 3 none al n X [.ref a0, .ref a1] M none M1 := sb_X2_takeOver h
set_option maxHeartbeats 4000000 in
set_option maxRecDepth 100000 in
noncomputable def T_X9_clear_0.{u} {α : Sort u} (R : Unit → Mem → α) (N : α) (n : Nat) (a0 : Nat) (M : Mem) : α := gd (fO M a0 9) N (R () (wI (wI M a0 2 0) a0 3 0))
set_option maxHeartbeats 4000000 in
set_option maxRecDepth 100000 in
theorem n_X9_clear_0.{u, v} {α : Sort u} {β : Sort v} (h : α → β) (R : Unit → Mem → α) (N : α) (n : Nat) (a0 : Nat) (M : Mem) : h (T_X9_clear_0 R N n a0 M) = T_X9_clear_0 (fun v M => h (R v M)) (h N) n a0 M := by
  simp only [T_X9_clear_0, nat_ite h, nat_gd h, nat_bnd h, nat_bnd2 h]
set_option maxHeartbeats 4000000 in
set_option maxRecDepth 100000 in
theorem w_X9_clear_0 {X : Nat × (Nat → Int32)} {al : Bool} {n : Nat} {Q : Option Value → Mem → Prop} {R : Unit → Mem → Prop} (hR : ∀ v M, R v M → Q none M) {a0 : Nat} {M : Mem} (h : T_X9_clear_0 R False n a0 M) : AW X (RX9, cX9_clear, 1, none, false, al, n) 0 0 0 [(0, .ref a0)] [] M Q := by
  unfold T_X9_clear_0 at h
  refine a_aload_n dX9_clear_0 rfl rfl ?_
  refine a_iconst (v := 0) dX9_clear_1 (by decide) ?_
  obtain ⟨⟨ga1, gs2⟩, h⟩ := gd_t h
  refine a_putI dX9_clear_2 (Or.inl ⟨fl_9_18, Or.inl rfl⟩) rfl ga1 gs2 rfl rfl ?_
  refine a_aload_n dX9_clear_5 rfl rfl ?_
  refine a_iconst (v := 0) dX9_clear_6 (by decide) ?_
  refine a_putI dX9_clear_7 (Or.inl ⟨fl_9_22, Or.inl rfl⟩) rfl ga1 gs2 rfl rfl ?_
  exact a_vret dX9_clear_10 rfl (hR _ _ h)
noncomputable def b_X9_clear (n : Nat) (a0 : Nat) (M : Mem) : Option (Unit × Mem) := T_X9_clear_0 (fun v M => some (v, M)) none n a0 M
set_option maxHeartbeats 4000000 in
set_option maxRecDepth 100000 in
theorem sb_X9_clear {X : Nat × (Nat → Int32)} {al : Bool} {n : Nat} {a0 : Nat} {M : Mem} {v : Unit} {M1 : Mem} (h : b_X9_clear n a0 M = some (v, M1)) : AE yX9_clear cX9_clear 1 none al n X [.ref a0] M none M1 := by
  refine AM.of false (by decide +kernel) (by intro h; cases h) (Nat.le_of_ble_eq_true rfl) ?_
  have h2 : T_X9_clear_0 (fun v2 M2 => some (v2, M2) = some (v, M1)) (none = some (v, M1)) n a0 M := (n_X9_clear_0 (fun o => o = some (v, M1)) (fun v M => some (v, M)) none n a0 M).mp h
  have h3 : ((none : Option (Unit × Mem)) = some (v, M1)) = False := eq_false (by intro q; cases q)
  rw [h3] at h2
  exact w_X9_clear_0 (fun v2 M2 h => by cases h; exact ⟨rfl, rfl⟩) h2

noncomputable abbrev f_X9_clear := b_X9_clear
theorem s_X9_clear {X : Nat × (Nat → Int32)} {al : Bool} {n : Nat} {a0 : Nat} {M : Mem} {v : Unit} {M1 : Mem} (h : f_X9_clear n a0 M = some (v, M1)) : AE yX9_clear cX9_clear 1 none al n X [.ref a0] M none M1 := sb_X9_clear h
def ix_X10_hypotheses (c : Nat) : List Nat := if c = 0 then [0, 1] else if c = 54 then [0, 2] else []
def PW_X10_hypotheses (X : Nat × (Nat → Int32)) (al : Bool) (n : Nat) (Q : Option Value → Mem → Prop) (c : Nat) (l : List Value) (M : Mem) : Prop := AW X (RX10, cX10_hypotheses, 3, (some .int), false, al, n) 0 0 c (List.zip (ix_X10_hypotheses c) l) (l.drop (ix_X10_hypotheses c).length) M Q
set_option maxHeartbeats 4000000 in
set_option maxRecDepth 100000 in
noncomputable def T_X10_hypotheses_0.{u} {α : Sort u} (J : Nat → List Value → Mem → α) (R : Int32 → Mem → α) (N : α) (n : Nat) (a0 : Nat) (x1 : Int32) (M : Mem) : α := gd (fO M a0 10) N (bnd2 (cal n (fun n => f_X10_tapeLacks n a0 x1 M)) N (fun v3 M4 => if v3 = 0 then gd (fO M4 a0 10) N (bnd (M4.2.2.2.2 a0 4) N (fun r11 => gd (fO M4 r11 6) N (bnd2 (cal n (fun n => f_X6_readHypotheses n r11 x1 (wI M4 a0 1 0))) N (fun v15 M16 => if v15 = 0 then gd (fO M16 a0 10) N (bnd (M16.2.2.2.2 a0 4) N (fun r39 => gd (fO M16 r39 6) N (R ((-30) - (M16.2.2.1 r39 17)) M16))) else gd (fO M16 a0 10) N (bnd (M16.2.2.2.2 a0 3) N (fun r23 => bnd (M16.2.2.2.2 a0 4) N (fun r25 => gd (fO M16 r25 6) N (bnd (M16.2.2.2.2 r25 3) N (fun r29 => gd (fO M16 r23 2) N (bnd2 (cal n (fun n => f_X2_takeOver n r23 r29 M16)) N (fun _ M33 => J 54 [.ref a0, .int 0] M33))))))))))) else R (-3) M4))
set_option maxHeartbeats 4000000 in
set_option maxRecDepth 100000 in
theorem n_X10_hypotheses_0.{u, v} {α : Sort u} {β : Sort v} (h : α → β) (J : Nat → List Value → Mem → α) (R : Int32 → Mem → α) (N : α) (n : Nat) (a0 : Nat) (x1 : Int32) (M : Mem) : h (T_X10_hypotheses_0 J R N n a0 x1 M) = T_X10_hypotheses_0 (fun c l M => h (J c l M)) (fun v M => h (R v M)) (h N) n a0 x1 M := by
  simp only [T_X10_hypotheses_0, nat_ite h, nat_gd h, nat_bnd h, nat_bnd2 h]
set_option maxHeartbeats 4000000 in
set_option maxRecDepth 100000 in
theorem w_X10_hypotheses_0 {X : Nat × (Nat → Int32)} {al : Bool} {n : Nat} {Q : Option Value → Mem → Prop} {J : Nat → List Value → Mem → Prop} (hJ : ∀ c l M, J c l M → PW_X10_hypotheses X al n Q c l M) {R : Int32 → Mem → Prop} (hR : ∀ v M, R v M → Q (some (.int v)) M) {a0 : Nat} {x1 : Int32} {M : Mem} (h : T_X10_hypotheses_0 J R False n a0 x1 M) : AW X (RX10, cX10_hypotheses, 3, (some .int), false, al, n) 0 0 0 [(0, .ref a0), (1, .int x1)] [] M Q := by
  unfold T_X10_hypotheses_0 at h
  refine a_aload_n dX10_hypotheses_0 rfl rfl ?_
  refine a_iload_n dX10_hypotheses_1 rfl rfl ?_
  obtain ⟨⟨ga1, gs2⟩, h⟩ := gd_t h
  obtain ⟨v3, M4, e5, h⟩ := bnd2_t h
  obtain ⟨n6, en7, e5⟩ := cal_t e5
  refine e_callV (As := [.int x1]) (st := []) (a := a0) (ci := 10) false dX10_hypotheses_2 mw_X10_tapeLacks (Or.inl ⟨rfl, ml_X10_119⟩) im_X10_tapeLacks se_X10_tapeLacks (by decide) ga1 gs2 rfl (Nat.le_of_ble_eq_true rfl) en7 (s_X10_tapeLacks e5) ?_
  refine a_if_eq 11 dX10_hypotheses_5 (by decide) (fun c8 => ?_) (fun c8 => ?_)
  · replace h := ite_t c8 h
    refine a_aload_n dX10_hypotheses_11 rfl rfl ?_
    refine a_iconst (v := 0) dX10_hypotheses_12 (by decide) ?_
    obtain ⟨⟨ga9, gs10⟩, h⟩ := gd_t h
    refine a_putI dX10_hypotheses_13 (Or.inl ⟨fl_10_112, Or.inl rfl⟩) rfl ga9 gs10 rfl rfl ?_
    refine a_aload_n dX10_hypotheses_16 rfl rfl ?_
    obtain ⟨r11, e12, h⟩ := bnd_t h
    refine a_get (v := .ref r11) dX10_hypotheses_17 fl_10_32 ga9 gs10 (gvR e12 rfl) ?_
    refine a_iload_n dX10_hypotheses_20 rfl rfl ?_
    obtain ⟨⟨ga13, gs14⟩, h⟩ := gd_t h
    obtain ⟨v15, M16, e17, h⟩ := bnd2_t h
    obtain ⟨n18, en19, e17⟩ := cal_t e17
    refine e_callV (As := [.int x1]) (st := []) (a := r11) (ci := 6) false dX10_hypotheses_21 mw_X6_readHypotheses (Or.inl ⟨rfl, ml_X10_123⟩) im_X6_readHypotheses se_X6_readHypotheses (by decide) ga13 gs14 rfl (Nat.le_of_ble_eq_true rfl) en19 (s_X6_readHypotheses e17) ?_
    refine a_if_ne 38 dX10_hypotheses_24 (by decide) (fun c20 => ?_) (fun c20 => ?_)
    · replace h := ite_f c20 h
      refine a_aload_n dX10_hypotheses_38 rfl rfl ?_
      obtain ⟨⟨ga21, gs22⟩, h⟩ := gd_t h
      obtain ⟨r23, e24, h⟩ := bnd_t h
      refine a_get (v := .ref r23) dX10_hypotheses_39 fl_10_23 ga21 gs22 (gvR e24 rfl) ?_
      refine a_aload_n dX10_hypotheses_42 rfl rfl ?_
      obtain ⟨r25, e26, h⟩ := bnd_t h
      refine a_get (v := .ref r25) dX10_hypotheses_43 fl_10_32 ga21 gs22 (gvR e26 rfl) ?_
      obtain ⟨⟨ga27, gs28⟩, h⟩ := gd_t h
      obtain ⟨r29, e30, h⟩ := bnd_t h
      refine a_getN (v := .ref r29) dX10_hypotheses_46 fn_10_129 ga27 gs28 (gvR e30 rfl) ?_
      obtain ⟨⟨ga31, gs32⟩, h⟩ := gd_t h
      obtain ⟨_, M33, e34, h⟩ := bnd2_t h
      obtain ⟨n35, en36, e34⟩ := cal_t e34
      refine e_callV (As := [.ref r29]) (st := []) (a := r23) (ci := 2) false dX10_hypotheses_49 mw_X2_takeOver (Or.inl ⟨rfl, ml_X10_132⟩) im_X2_takeOver se_X2_takeOver (by decide) ga31 gs32 rfl (Nat.le_of_ble_eq_true rfl) en36 (s_X2_takeOver e34) ?_
      refine a_iconst (v := 0) dX10_hypotheses_52 (by decide) ?_
      refine a_istore_n dX10_hypotheses_53 rfl (Nat.le_of_ble_eq_true rfl) (lv2 := [(2, .int 0), (0, .ref a0), (1, .int x1)]) rfl ?_
      exact a_lv (lv2 := [(0, .ref a0), (2, .int 0)]) (fa_cons rfl (fa_cons rfl fa_nil)) (hJ _ _ _ h)
    · replace h := ite_t c20 h
      refine a_bipush (v := -30) dX10_hypotheses_27 (by decide) ?_
      refine a_aload_n dX10_hypotheses_29 rfl rfl ?_
      obtain ⟨⟨ga37, gs38⟩, h⟩ := gd_t h
      obtain ⟨r39, e40, h⟩ := bnd_t h
      refine a_get (v := .ref r39) dX10_hypotheses_30 fl_10_32 ga37 gs38 (gvR e40 rfl) ?_
      obtain ⟨⟨ga41, gs42⟩, h⟩ := gd_t h
      refine a_getN (v := .int (M16.2.2.1 r39 17)) dX10_hypotheses_33 fn_10_126 ga41 gs42 rfl ?_
      refine a_isub dX10_hypotheses_36 ?_
      exact a_iret dX10_hypotheses_37 rfl (hR _ _ h)
  · replace h := ite_f c8 h
    refine a_bipush (v := -3) dX10_hypotheses_8 (by decide) ?_
    exact a_iret dX10_hypotheses_10 rfl (hR _ _ h)
set_option maxHeartbeats 4000000 in
set_option maxRecDepth 100000 in
noncomputable def T_X10_hypotheses_54.{u} {α : Sort u} (J : Nat → List Value → Mem → α) (R : Int32 → Mem → α) (N : α) (n : Nat) (a0 : Nat) (x2 : Int32) (M : Mem) : α := if 4 ≤ x2 then gd (fO M a0 10) N (bnd (M.2.2.2.2 a0 3) N (fun r4 => gd (fO M r4 2) N (R (M.2.2.1 r4 3) M))) else gd (fO M a0 10) N (bnd (M.2.2.2.2 a0 5) N (fun r10 => gd (fA M r10 4 x2) N (bnd (M.2.2.2.2 r10 (x2.toNatClampNeg)) N (fun r16 => gd (fO M r16 9) N (bnd2 (cal n (fun n => f_X9_clear n r16 M)) N (fun _ M20 => J 54 [.ref a0, .int (x2 + 1)] M20))))))
set_option maxHeartbeats 4000000 in
set_option maxRecDepth 100000 in
theorem n_X10_hypotheses_54.{u, v} {α : Sort u} {β : Sort v} (h : α → β) (J : Nat → List Value → Mem → α) (R : Int32 → Mem → α) (N : α) (n : Nat) (a0 : Nat) (x2 : Int32) (M : Mem) : h (T_X10_hypotheses_54 J R N n a0 x2 M) = T_X10_hypotheses_54 (fun c l M => h (J c l M)) (fun v M => h (R v M)) (h N) n a0 x2 M := by
  simp only [T_X10_hypotheses_54, nat_ite h, nat_gd h, nat_bnd h, nat_bnd2 h]
set_option maxHeartbeats 4000000 in
set_option maxRecDepth 100000 in
theorem w_X10_hypotheses_54 {X : Nat × (Nat → Int32)} {al : Bool} {n : Nat} {Q : Option Value → Mem → Prop} {J : Nat → List Value → Mem → Prop} (hJ : ∀ c l M, J c l M → PW_X10_hypotheses X al n Q c l M) {R : Int32 → Mem → Prop} (hR : ∀ v M, R v M → Q (some (.int v)) M) {a0 : Nat} {x2 : Int32} {M : Mem} (h : T_X10_hypotheses_54 J R False n a0 x2 M) : AW X (RX10, cX10_hypotheses, 3, (some .int), false, al, n) 0 0 54 [(0, .ref a0), (2, .int x2)] [] M Q := by
  unfold T_X10_hypotheses_54 at h
  refine a_iload_n dX10_hypotheses_54 rfl rfl ?_
  refine a_iconst (v := 4) dX10_hypotheses_55 (by decide) ?_
  refine a_icmp_ge 74 dX10_hypotheses_56 (by decide) (fun c1 => ?_) (fun c1 => ?_)
  · replace h := ite_t c1 h
    refine a_aload_n dX10_hypotheses_74 rfl rfl ?_
    obtain ⟨⟨ga2, gs3⟩, h⟩ := gd_t h
    obtain ⟨r4, e5, h⟩ := bnd_t h
    refine a_get (v := .ref r4) dX10_hypotheses_75 fl_10_23 ga2 gs3 (gvR e5 rfl) ?_
    obtain ⟨⟨ga6, gs7⟩, h⟩ := gd_t h
    refine a_getN (v := .int (M.2.2.1 r4 3)) dX10_hypotheses_78 fn_10_138 ga6 gs7 rfl ?_
    exact a_iret dX10_hypotheses_81 rfl (hR _ _ h)
  · replace h := ite_f c1 h
    refine a_aload_n dX10_hypotheses_59 rfl rfl ?_
    obtain ⟨⟨ga8, gs9⟩, h⟩ := gd_t h
    obtain ⟨r10, e11, h⟩ := bnd_t h
    refine a_get (v := .ref r10) dX10_hypotheses_60 fl_10_38 ga8 gs9 (gvR e11 rfl) ?_
    refine a_iload_n dX10_hypotheses_63 rfl rfl ?_
    obtain ⟨⟨ga12, gn13, gs14, gi15⟩, h⟩ := gd_t h
    obtain ⟨r16, e17, h⟩ := bnd_t h
    refine a_aaload dX10_hypotheses_64 ga12 gs14 gi15 e17 ?_
    obtain ⟨⟨ga18, gs19⟩, h⟩ := gd_t h
    obtain ⟨_, M20, e21, h⟩ := bnd2_t h
    obtain ⟨n22, en23, e21⟩ := cal_t e21
    refine e_callV (As := []) (st := []) (a := r16) (ci := 9) false dX10_hypotheses_65 mw_X9_clear (Or.inl ⟨rfl, ml_X10_135⟩) im_X9_clear se_X9_clear (by decide) ga18 gs19 rfl (Nat.le_of_ble_eq_true rfl) en23 (s_X9_clear e21) ?_
    refine a_iinc (v := (x2 + 1)) dX10_hypotheses_68 rfl (by first | rfl | decide) (Nat.le_of_ble_eq_true rfl) (lv2 := [(2, .int (x2 + 1)), (0, .ref a0)]) rfl ?_
    refine a_goto 54 dX10_hypotheses_71 (by decide) ?_
    exact a_lv (lv2 := [(0, .ref a0), (2, .int (x2 + 1))]) (fa_cons rfl (fa_cons rfl fa_nil)) (hJ _ _ _ h)
set_option maxHeartbeats 4000000 in
set_option maxRecDepth 100000 in
noncomputable def st_X10_hypotheses (n : Nat) (s : Sg) : Option (Sg ⊕ (Int32 × Mem)) := if s.1 = 0 then vR s.2.1 none (fun a0 t => vI t none (fun x1 t => vE t none (T_X10_hypotheses_0 (fun c l M => some (.inl (c, l, M))) (fun v M => some (.inr (v, M))) none n a0 x1 s.2.2))) else if s.1 = 54 then vR s.2.1 none (fun a0 t => vI t none (fun x2 t => vE t none (T_X10_hypotheses_54 (fun c l M => some (.inl (c, l, M))) (fun v M => some (.inr (v, M))) none n a0 x2 s.2.2))) else none
noncomputable abbrev g_X10_hypotheses_0 (n : Nat) (a0 : Nat) (x1 : Int32) (M : Mem) : Option (Int32 × Mem) := lp (st_X10_hypotheses n) (0, [.ref a0, .int x1], M)
set_option maxHeartbeats 4000000 in
set_option maxRecDepth 100000 in
theorem ge_X10_hypotheses_0 (n : Nat) (a0 : Nat) (x1 : Int32) (M : Mem) : g_X10_hypotheses_0 n a0 x1 M = T_X10_hypotheses_0 (fun c l M => lp (st_X10_hypotheses n) (c, l, M)) (fun v M => some (v, M)) none n a0 x1 M := (lp_eq _ _).trans (n_X10_hypotheses_0 (lpK (st_X10_hypotheses n)) (fun c l M => some (.inl (c, l, M))) (fun v M => some (.inr (v, M))) none n a0 x1 M)
noncomputable abbrev g_X10_hypotheses_54 (n : Nat) (a0 : Nat) (x2 : Int32) (M : Mem) : Option (Int32 × Mem) := lp (st_X10_hypotheses n) (54, [.ref a0, .int x2], M)
set_option maxHeartbeats 4000000 in
set_option maxRecDepth 100000 in
theorem ge_X10_hypotheses_54 (n : Nat) (a0 : Nat) (x2 : Int32) (M : Mem) : g_X10_hypotheses_54 n a0 x2 M = T_X10_hypotheses_54 (fun c l M => lp (st_X10_hypotheses n) (c, l, M)) (fun v M => some (v, M)) none n a0 x2 M := (lp_eq _ _).trans (n_X10_hypotheses_54 (lpK (st_X10_hypotheses n)) (fun c l M => some (.inl (c, l, M))) (fun v M => some (.inr (v, M))) none n a0 x2 M)
noncomputable def b_X10_hypotheses (n : Nat) (a0 : Nat) (x1 : Int32) (M : Mem) : Option (Int32 × Mem) := g_X10_hypotheses_0 n a0 x1 M
set_option maxHeartbeats 4000000 in
set_option maxRecDepth 100000 in
theorem sb_X10_hypotheses {X : Nat × (Nat → Int32)} {al : Bool} {n : Nat} {a0 : Nat} {x1 : Int32} {M : Mem} {v : Int32} {M1 : Mem} (h : b_X10_hypotheses n a0 x1 M = some (v, M1)) : AE yX10_hypotheses cX10_hypotheses 3 (some .int) al n X [.ref a0, .int x1] M (some (.int v)) M1 := by
  refine AM.of false (by decide +kernel) (by intro h; cases h) (Nat.le_of_ble_eq_true rfl) ?_
  refine lp_snd (P := fun s r => PW_X10_hypotheses X al n (fun v M2 => v = (some (.int r.1)) ∧ M2 = r.2) s.1 s.2.1 s.2.2) ?_ h
  clear h
  rintro ⟨c, l, M⟩ r h
  unfold st_X10_hypotheses at h
  rcases ite_p h with ⟨e, h⟩ | ⟨e, h⟩
  · replace e : c = 0 := e
    subst e
    obtain ⟨a0, tt0, e, h⟩ := vR_p id h
    replace e : l = _ := e
    subst e
    obtain ⟨x1, tt1, e, h⟩ := vI_p id h
    replace e : tt0 = _ := e
    subst e
    obtain ⟨e, h⟩ := vE_p id h
    replace e : tt1 = [] := e
    subst e
    exact w_X10_hypotheses_0 (J := fun c l M => PW_X10_hypotheses X al n (fun v M2 => v = (some (.int r.1)) ∧ M2 = r.2) c l M) (R := fun v M => (v, M) = r) (fun _ _ _ h => h) (fun v M h => by cases h; exact ⟨rfl, rfl⟩) ((n_X10_hypotheses_0 (lpP (fun (s : Sg) (r : Int32 × Mem) => PW_X10_hypotheses X al n (fun v M2 => v = (some (.int r.1)) ∧ M2 = r.2) s.1 s.2.1 s.2.2) r) (fun c l M => some (.inl (c, l, M))) (fun v M => some (.inr (v, M))) none n a0 x1 M).mp h)
  rcases ite_p h with ⟨e, h⟩ | ⟨e, h⟩
  · replace e : c = 54 := e
    subst e
    obtain ⟨a0, tt0, e, h⟩ := vR_p id h
    replace e : l = _ := e
    subst e
    obtain ⟨x2, tt1, e, h⟩ := vI_p id h
    replace e : tt0 = _ := e
    subst e
    obtain ⟨e, h⟩ := vE_p id h
    replace e : tt1 = [] := e
    subst e
    exact w_X10_hypotheses_54 (J := fun c l M => PW_X10_hypotheses X al n (fun v M2 => v = (some (.int r.1)) ∧ M2 = r.2) c l M) (R := fun v M => (v, M) = r) (fun _ _ _ h => h) (fun v M h => by cases h; exact ⟨rfl, rfl⟩) ((n_X10_hypotheses_54 (lpP (fun (s : Sg) (r : Int32 × Mem) => PW_X10_hypotheses X al n (fun v M2 => v = (some (.int r.1)) ∧ M2 = r.2) s.1 s.2.1 s.2.2) r) (fun c l M => some (.inl (c, l, M))) (fun v M => some (.inr (v, M))) none n a0 x2 M).mp h)
  · exact h.elim

noncomputable abbrev f_X10_hypotheses := b_X10_hypotheses
theorem s_X10_hypotheses {X : Nat × (Nat → Int32)} {al : Bool} {n : Nat} {a0 : Nat} {x1 : Int32} {M : Mem} {v : Int32} {M1 : Mem} (h : f_X10_hypotheses n a0 x1 M = some (v, M1)) : AE yX10_hypotheses cX10_hypotheses 3 (some .int) al n X [.ref a0, .int x1] M (some (.int v)) M1 := sb_X10_hypotheses h
set_option maxHeartbeats 4000000 in
set_option maxRecDepth 100000 in
noncomputable def T_X11_isIn_0.{u} {α : Sort u} (R : Int32 → Mem → α) (N : α) (n : Nat) (j0 : Int64) (j2 : Int64) (j4 : Int64) (M : Mem) : α := if (lg_cmp j0 j2) < 0 then R 0 M else if 0 < (lg_cmp j0 j4) then R 0 M else R 1 M
set_option maxHeartbeats 4000000 in
set_option maxRecDepth 100000 in
theorem n_X11_isIn_0.{u, v} {α : Sort u} {β : Sort v} (h : α → β) (R : Int32 → Mem → α) (N : α) (n : Nat) (j0 : Int64) (j2 : Int64) (j4 : Int64) (M : Mem) : h (T_X11_isIn_0 R N n j0 j2 j4 M) = T_X11_isIn_0 (fun v M => h (R v M)) (h N) n j0 j2 j4 M := by
  simp only [T_X11_isIn_0, nat_ite h, nat_gd h, nat_bnd h, nat_bnd2 h]
set_option maxHeartbeats 4000000 in
set_option maxRecDepth 100000 in
theorem w_X11_isIn_0 {X : Nat × (Nat → Int32)} {al : Bool} {n : Nat} {Q : Option Value → Mem → Prop} {R : Int32 → Mem → Prop} (hR : ∀ v M, R v M → Q (some (.int v)) M) {j0 : Int64} {j2 : Int64} {j4 : Int64} {M : Mem} (h : T_X11_isIn_0 R False n j0 j2 j4 M) : AW X (RX11, cX11_isIn, 6, (some .boolean), false, al, n) 0 0 0 [(0, .long j0), (2, .long j2), (4, .long j4)] [] M Q := by
  unfold T_X11_isIn_0 at h
  refine a_lload_n dX11_isIn_0 rfl rfl ?_
  refine a_lload_n dX11_isIn_1 rfl rfl ?_
  refine a_lcmp dX11_isIn_2 ?_
  refine a_if_lt 17 dX11_isIn_3 (by decide) (fun c1 => ?_) (fun c1 => ?_)
  · replace h := ite_t c1 h
    refine a_iconst (v := 0) dX11_isIn_17 (by decide) ?_
    exact a_zret dX11_isIn_18 rfl rfl (hR _ _ h)
  · replace h := ite_f c1 h
    refine a_lload_n dX11_isIn_6 rfl rfl ?_
    refine a_lload dX11_isIn_7 rfl ?_
    refine a_lcmp dX11_isIn_9 ?_
    refine a_if_gt 17 dX11_isIn_10 (by decide) (fun c2 => ?_) (fun c2 => ?_)
    · replace h := ite_t c2 h
      refine a_iconst (v := 0) dX11_isIn_17 (by decide) ?_
      exact a_zret dX11_isIn_18 rfl rfl (hR _ _ h)
    · replace h := ite_f c2 h
      refine a_iconst (v := 1) dX11_isIn_13 (by decide) ?_
      refine a_goto 18 dX11_isIn_14 (by decide) ?_
      exact a_zret dX11_isIn_18 rfl rfl (hR _ _ h)
noncomputable def b_X11_isIn (n : Nat) (j0 : Int64) (j2 : Int64) (j4 : Int64) (M : Mem) : Option (Int32 × Mem) := T_X11_isIn_0 (fun v M => some (v, M)) none n j0 j2 j4 M
set_option maxHeartbeats 4000000 in
set_option maxRecDepth 100000 in
theorem sb_X11_isIn {X : Nat × (Nat → Int32)} {al : Bool} {n : Nat} {j0 : Int64} {j2 : Int64} {j4 : Int64} {M : Mem} {v : Int32} {M1 : Mem} (h : b_X11_isIn n j0 j2 j4 M = some (v, M1)) : AE yX11_isIn cX11_isIn 6 (some .boolean) al n X [.long j0, .long j2, .long j4] M (some (.int v)) M1 := by
  refine AM.of false (by decide +kernel) (by intro h; cases h) (Nat.le_of_ble_eq_true rfl) ?_
  have h2 : T_X11_isIn_0 (fun v2 M2 => some (v2, M2) = some (v, M1)) (none = some (v, M1)) n j0 j2 j4 M := (n_X11_isIn_0 (fun o => o = some (v, M1)) (fun v M => some (v, M)) none n j0 j2 j4 M).mp h
  have h3 : ((none : Option (Int32 × Mem)) = some (v, M1)) = False := eq_false (by intro q; cases q)
  rw [h3] at h2
  exact w_X11_isIn_0 (fun v2 M2 h => by cases h; exact ⟨rfl, rfl⟩) h2

noncomputable abbrev f_X11_isIn := b_X11_isIn
theorem s_X11_isIn {X : Nat × (Nat → Int32)} {al : Bool} {n : Nat} {j0 : Int64} {j2 : Int64} {j4 : Int64} {M : Mem} {v : Int32} {M1 : Mem} (h : f_X11_isIn n j0 j2 j4 M = some (v, M1)) : AE yX11_isIn cX11_isIn 6 (some .boolean) al n X [.long j0, .long j2, .long j4] M (some (.int v)) M1 := sb_X11_isIn h
set_option maxHeartbeats 4000000 in
set_option maxRecDepth 100000 in
noncomputable def T_X11_marks_0.{u} {α : Sort u} (R : Unit → Mem → α) (N : α) (cl : Nat → List Value → Mem → Option (Unit × Mem)) (n : Nat) (a0 : Nat) (x1 : Int32) (M : Mem) : α := if x1 = (-1) then R () M else gd (fO M a0 11) N (bnd (M.2.2.2.2 a0 6) N (fun r4 => gd (fA M r4 1 x1) N (if (M.2.2.1 r4 (x1.toNatClampNeg)) = (-1) then bnd (M.2.2.2.2 a0 2) N (fun r11 => gd (fA M r11 1 x1) N (bnd2 (cl 0 [.ref a0, .int ((wI M r4 (x1.toNatClampNeg) 0).2.2.1 r11 (x1.toNatClampNeg))] (wI M r4 (x1.toNatClampNeg) 0)) N (fun _ M17 => gd (fO M17 a0 11) N (bnd (M17.2.2.2.2 a0 3) N (fun r23 => gd (fA M17 r23 1 x1) N (bnd2 (cl 0 [.ref a0, .int (M17.2.2.1 r23 (x1.toNatClampNeg))] M17) N (fun _ M29 => R () M29))))))) else R () M)))
set_option maxHeartbeats 4000000 in
set_option maxRecDepth 100000 in
theorem n_X11_marks_0.{u, v} {α : Sort u} {β : Sort v} (h : α → β) (R : Unit → Mem → α) (N : α) (cl : Nat → List Value → Mem → Option (Unit × Mem)) (n : Nat) (a0 : Nat) (x1 : Int32) (M : Mem) : h (T_X11_marks_0 R N cl n a0 x1 M) = T_X11_marks_0 (fun v M => h (R v M)) (h N) cl n a0 x1 M := by
  simp only [T_X11_marks_0, nat_ite h, nat_gd h, nat_bnd h, nat_bnd2 h]
set_option maxHeartbeats 4000000 in
set_option maxRecDepth 100000 in
theorem w_X11_marks_0 {X : Nat × (Nat → Int32)} {al : Bool} {n : Nat} {Q : Option Value → Mem → Prop} {R : Unit → Mem → Prop} (hR : ∀ v M, R v M → Q none M) {cl : Nat → List Value → Mem → Option (Unit × Mem)} (hc_X11_marks : ∀ {a0 : Nat} {x1 : Int32} {M : Mem} {v : Unit} {M1 : Mem}, cl 0 [.ref a0, .int x1] M = some (v, M1) → ∃ k, n = k + 1 ∧ AE yX11_marks cX11_marks 2 none al k X [.ref a0, .int x1] M none M1) {a0 : Nat} {x1 : Int32} {M : Mem} (h : T_X11_marks_0 R False cl n a0 x1 M) : AW X (RX11, cX11_marks, 2, none, false, al, n) 0 0 0 [(0, .ref a0), (1, .int x1)] [] M Q := by
  unfold T_X11_marks_0 at h
  refine a_iload_n dX11_marks_0 rfl rfl ?_
  refine a_iconst (v := -1) dX11_marks_1 (by decide) ?_
  refine a_icmp_eq 15 dX11_marks_2 (by decide) (fun c1 => ?_) (fun c1 => ?_)
  · replace h := ite_t c1 h
    exact a_vret dX11_marks_15 rfl (hR _ _ h)
  · replace h := ite_f c1 h
    refine a_aload_n dX11_marks_5 rfl rfl ?_
    obtain ⟨⟨ga2, gs3⟩, h⟩ := gd_t h
    obtain ⟨r4, e5, h⟩ := bnd_t h
    refine a_get (v := .ref r4) dX11_marks_6 fl_11_29 ga2 gs3 (gvR e5 rfl) ?_
    refine a_iload_n dX11_marks_9 rfl rfl ?_
    obtain ⟨⟨ga6, gn7, gs8, gi9⟩, h⟩ := gd_t h
    refine a_iaload dX11_marks_10 ga6 gs8 gi9 ?_
    refine a_iconst (v := -1) dX11_marks_11 (by decide) ?_
    refine a_icmp_eq 16 dX11_marks_12 (by decide) (fun c10 => ?_) (fun c10 => ?_)
    · replace h := ite_t c10 h
      refine a_aload_n dX11_marks_16 rfl rfl ?_
      refine a_get (v := .ref r4) dX11_marks_17 fl_11_29 ga2 gs3 (gvR e5 rfl) ?_
      refine a_iload_n dX11_marks_20 rfl rfl ?_
      refine a_iconst (v := 0) dX11_marks_21 (by decide) ?_
      refine a_iastore dX11_marks_22 ga6 gs8 gi9 ?_
      refine a_aload_n dX11_marks_23 rfl rfl ?_
      refine a_aload_n dX11_marks_24 rfl rfl ?_
      obtain ⟨r11, e12, h⟩ := bnd_t h
      refine a_get (v := .ref r11) dX11_marks_25 fl_11_17 ga2 gs3 (gvR e12 rfl) ?_
      refine a_iload_n dX11_marks_28 rfl rfl ?_
      obtain ⟨⟨ga13, gn14, gs15, gi16⟩, h⟩ := gd_t h
      refine a_iaload dX11_marks_29 ga13 gs15 gi16 ?_
      obtain ⟨_, M17, e18, h⟩ := bnd2_t h
      obtain ⟨n19, en20, e18⟩ := hc_X11_marks e18
      refine e_callV (As := [.int ((wI M r4 (x1.toNatClampNeg) 0).2.2.1 r11 (x1.toNatClampNeg))]) (st := []) (a := a0) (ci := 11) false dX11_marks_30 mw_X11_marks (Or.inl ⟨rfl, ml_X11_147⟩) im_X11_marks se_X11_marks (by decide) ga2 gs3 rfl (Nat.le_of_ble_eq_true rfl) en20 e18 ?_
      refine a_aload_n dX11_marks_33 rfl rfl ?_
      refine a_aload_n dX11_marks_34 rfl rfl ?_
      obtain ⟨⟨ga21, gs22⟩, h⟩ := gd_t h
      obtain ⟨r23, e24, h⟩ := bnd_t h
      refine a_get (v := .ref r23) dX11_marks_35 fl_11_20 ga21 gs22 (gvR e24 rfl) ?_
      refine a_iload_n dX11_marks_38 rfl rfl ?_
      obtain ⟨⟨ga25, gn26, gs27, gi28⟩, h⟩ := gd_t h
      refine a_iaload dX11_marks_39 ga25 gs27 gi28 ?_
      obtain ⟨_, M29, e30, h⟩ := bnd2_t h
      obtain ⟨n31, en32, e30⟩ := hc_X11_marks e30
      refine e_callV (As := [.int (M17.2.2.1 r23 (x1.toNatClampNeg))]) (st := []) (a := a0) (ci := 11) false dX11_marks_40 mw_X11_marks (Or.inl ⟨rfl, ml_X11_147⟩) im_X11_marks se_X11_marks (by decide) ga21 gs22 rfl (Nat.le_of_ble_eq_true rfl) en32 e30 ?_
      exact a_vret dX11_marks_43 rfl (hR _ _ h)
    · replace h := ite_f c10 h
      exact a_vret dX11_marks_15 rfl (hR _ _ h)
noncomputable def b_X11_marks (cl : Nat → List Value → Mem → Option (Unit × Mem)) (n : Nat) (a0 : Nat) (x1 : Int32) (M : Mem) : Option (Unit × Mem) := T_X11_marks_0 (fun v M => some (v, M)) none cl n a0 x1 M
set_option maxHeartbeats 4000000 in
set_option maxRecDepth 100000 in
theorem sb_X11_marks {X : Nat × (Nat → Int32)} {al : Bool} {n : Nat} {cl : Nat → List Value → Mem → Option (Unit × Mem)} (hc_X11_marks : ∀ {a0 : Nat} {x1 : Int32} {M : Mem} {v : Unit} {M1 : Mem}, cl 0 [.ref a0, .int x1] M = some (v, M1) → ∃ k, n = k + 1 ∧ AE yX11_marks cX11_marks 2 none al k X [.ref a0, .int x1] M none M1) {a0 : Nat} {x1 : Int32} {M : Mem} {v : Unit} {M1 : Mem} (h : b_X11_marks cl n a0 x1 M = some (v, M1)) : AE yX11_marks cX11_marks 2 none al n X [.ref a0, .int x1] M none M1 := by
  refine AM.of false (by decide +kernel) (by intro h; cases h) (Nat.le_of_ble_eq_true rfl) ?_
  have h2 : T_X11_marks_0 (fun v2 M2 => some (v2, M2) = some (v, M1)) (none = some (v, M1)) cl n a0 x1 M := (n_X11_marks_0 (fun o => o = some (v, M1)) (fun v M => some (v, M)) none cl n a0 x1 M).mp h
  have h3 : ((none : Option (Unit × Mem)) = some (v, M1)) = False := eq_false (by intro q; cases q)
  rw [h3] at h2
  exact w_X11_marks_0 (fun v2 M2 h => by cases h; exact ⟨rfl, rfl⟩) hc_X11_marks h2

noncomputable def F_X11_marks (cl : Nat → List Value → Mem → Option (Unit × Mem)) (n k : Nat) (l : List Value) (M : Mem) : Option (Unit × Mem) := if k = 0 then vR l none (fun a0 t => vI t none (fun x1 t => vE t none (b_X11_marks cl n a0 x1 M))) else none
noncomputable def r_X11_marks : Nat → Nat → List Value → Mem → Option (Unit × Mem)
  | 0 => F_X11_marks (fun _ _ _ => none) 0
  | n + 1 => F_X11_marks (r_X11_marks n) (n + 1)
noncomputable abbrev f_X11_marks (n : Nat) (a0 : Nat) (x1 : Int32) (M : Mem) : Option (Unit × Mem) := r_X11_marks n 0 [.ref a0, .int x1] M
set_option maxHeartbeats 4000000 in
set_option maxRecDepth 100000 in
theorem sr_X11_marks {X : Nat × (Nat → Int32)} {al : Bool} : ∀ n : Nat, (∀ {a0 : Nat} {x1 : Int32} {M : Mem} {v : Unit} {M1 : Mem}, f_X11_marks n a0 x1 M = some (v, M1) → AE yX11_marks cX11_marks 2 none al n X [.ref a0, .int x1] M none M1) := by
  intro n
  induction n with
  | zero => exact (fun h => sb_X11_marks (cl := fun _ _ _ => none) (fun h => by cases h) h)
  | succ n ih => exact (fun h => sb_X11_marks (cl := r_X11_marks n) (fun h => ⟨n, rfl, ih h⟩) h)
theorem s_X11_marks {X : Nat × (Nat → Int32)} {al : Bool} {n : Nat} {a0 : Nat} {x1 : Int32} {M : Mem} {v : Unit} {M1 : Mem} (h : f_X11_marks n a0 x1 M = some (v, M1)) : AE yX11_marks cX11_marks 2 none al n X [.ref a0, .int x1] M none M1 := (sr_X11_marks n) h
def ix_X11_clears (c : Nat) : List Nat := if c = 0 then [0] else if c = 7 then [0, 1] else []
def PW_X11_clears (X : Nat × (Nat → Int32)) (al : Bool) (n : Nat) (Q : Option Value → Mem → Prop) (c : Nat) (l : List Value) (M : Mem) : Prop := AW X (RX11, cX11_clears, 2, none, false, al, n) 0 0 c (List.zip (ix_X11_clears c) l) (l.drop (ix_X11_clears c).length) M Q
set_option maxHeartbeats 4000000 in
set_option maxRecDepth 100000 in
noncomputable def T_X11_clears_0.{u} {α : Sort u} (J : Nat → List Value → Mem → α) (R : Unit → Mem → α) (N : α) (n : Nat) (a0 : Nat) (M : Mem) : α := gd (fO M a0 11) N (J 7 [.ref a0, .int 0] (wI M a0 7 0))
set_option maxHeartbeats 4000000 in
set_option maxRecDepth 100000 in
theorem n_X11_clears_0.{u, v} {α : Sort u} {β : Sort v} (h : α → β) (J : Nat → List Value → Mem → α) (R : Unit → Mem → α) (N : α) (n : Nat) (a0 : Nat) (M : Mem) : h (T_X11_clears_0 J R N n a0 M) = T_X11_clears_0 (fun c l M => h (J c l M)) (fun v M => h (R v M)) (h N) n a0 M := by
  simp only [T_X11_clears_0, nat_ite h, nat_gd h, nat_bnd h, nat_bnd2 h]
set_option maxHeartbeats 4000000 in
set_option maxRecDepth 100000 in
theorem w_X11_clears_0 {X : Nat × (Nat → Int32)} {al : Bool} {n : Nat} {Q : Option Value → Mem → Prop} {J : Nat → List Value → Mem → Prop} (hJ : ∀ c l M, J c l M → PW_X11_clears X al n Q c l M) {R : Unit → Mem → Prop} (hR : ∀ v M, R v M → Q none M) {a0 : Nat} {M : Mem} (h : T_X11_clears_0 J R False n a0 M) : AW X (RX11, cX11_clears, 2, none, false, al, n) 0 0 0 [(0, .ref a0)] [] M Q := by
  unfold T_X11_clears_0 at h
  refine a_aload_n dX11_clears_0 rfl rfl ?_
  refine a_iconst (v := 0) dX11_clears_1 (by decide) ?_
  obtain ⟨⟨ga1, gs2⟩, h⟩ := gd_t h
  refine a_putI dX11_clears_2 (Or.inl ⟨fl_11_137, Or.inl rfl⟩) rfl ga1 gs2 rfl rfl ?_
  refine a_iconst (v := 0) dX11_clears_5 (by decide) ?_
  refine a_istore_n dX11_clears_6 rfl (Nat.le_of_ble_eq_true rfl) (lv2 := [(1, .int 0), (0, .ref a0)]) rfl ?_
  exact a_lv (lv2 := [(0, .ref a0), (1, .int 0)]) (fa_cons rfl (fa_cons rfl fa_nil)) (hJ _ _ _ h)
set_option maxHeartbeats 4000000 in
set_option maxRecDepth 100000 in
noncomputable def T_X11_clears_7.{u} {α : Sort u} (J : Nat → List Value → Mem → α) (R : Unit → Mem → α) (N : α) (n : Nat) (a0 : Nat) (x1 : Int32) (M : Mem) : α := if 1024 ≤ x1 then R () M else gd (fO M a0 11) N (bnd (M.2.2.2.2 a0 5) N (fun r4 => gd (fA M r4 1 x1) N (J 7 [.ref a0, .int (x1 + 1)] (wI M r4 (x1.toNatClampNeg) (-1)))))
set_option maxHeartbeats 4000000 in
set_option maxRecDepth 100000 in
theorem n_X11_clears_7.{u, v} {α : Sort u} {β : Sort v} (h : α → β) (J : Nat → List Value → Mem → α) (R : Unit → Mem → α) (N : α) (n : Nat) (a0 : Nat) (x1 : Int32) (M : Mem) : h (T_X11_clears_7 J R N n a0 x1 M) = T_X11_clears_7 (fun c l M => h (J c l M)) (fun v M => h (R v M)) (h N) n a0 x1 M := by
  simp only [T_X11_clears_7, nat_ite h, nat_gd h, nat_bnd h, nat_bnd2 h]
set_option maxHeartbeats 4000000 in
set_option maxRecDepth 100000 in
theorem w_X11_clears_7 {X : Nat × (Nat → Int32)} {al : Bool} {n : Nat} {Q : Option Value → Mem → Prop} {J : Nat → List Value → Mem → Prop} (hJ : ∀ c l M, J c l M → PW_X11_clears X al n Q c l M) {R : Unit → Mem → Prop} (hR : ∀ v M, R v M → Q none M) {a0 : Nat} {x1 : Int32} {M : Mem} (h : T_X11_clears_7 J R False n a0 x1 M) : AW X (RX11, cX11_clears, 2, none, false, al, n) 0 0 7 [(0, .ref a0), (1, .int x1)] [] M Q := by
  unfold T_X11_clears_7 at h
  refine a_iload_n dX11_clears_7 rfl rfl ?_
  refine a_sipush (v := 1024) dX11_clears_8 (by decide) ?_
  refine a_icmp_ge 27 dX11_clears_11 (by decide) (fun c1 => ?_) (fun c1 => ?_)
  · replace h := ite_t c1 h
    exact a_vret dX11_clears_27 rfl (hR _ _ h)
  · replace h := ite_f c1 h
    refine a_aload_n dX11_clears_14 rfl rfl ?_
    obtain ⟨⟨ga2, gs3⟩, h⟩ := gd_t h
    obtain ⟨r4, e5, h⟩ := bnd_t h
    refine a_get (v := .ref r4) dX11_clears_15 fl_11_26 ga2 gs3 (gvR e5 rfl) ?_
    refine a_iload_n dX11_clears_18 rfl rfl ?_
    refine a_iconst (v := -1) dX11_clears_19 (by decide) ?_
    obtain ⟨⟨ga6, gn7, gs8, gi9⟩, h⟩ := gd_t h
    refine a_iastore dX11_clears_20 ga6 gs8 gi9 ?_
    refine a_iinc (v := (x1 + 1)) dX11_clears_21 rfl (by first | rfl | decide) (Nat.le_of_ble_eq_true rfl) (lv2 := [(1, .int (x1 + 1)), (0, .ref a0)]) rfl ?_
    refine a_goto 7 dX11_clears_24 (by decide) ?_
    exact a_lv (lv2 := [(0, .ref a0), (1, .int (x1 + 1))]) (fa_cons rfl (fa_cons rfl fa_nil)) (hJ _ _ _ h)
set_option maxHeartbeats 4000000 in
set_option maxRecDepth 100000 in
noncomputable def st_X11_clears (n : Nat) (s : Sg) : Option (Sg ⊕ (Unit × Mem)) := if s.1 = 0 then vR s.2.1 none (fun a0 t => vE t none (T_X11_clears_0 (fun c l M => some (.inl (c, l, M))) (fun v M => some (.inr (v, M))) none n a0 s.2.2)) else if s.1 = 7 then vR s.2.1 none (fun a0 t => vI t none (fun x1 t => vE t none (T_X11_clears_7 (fun c l M => some (.inl (c, l, M))) (fun v M => some (.inr (v, M))) none n a0 x1 s.2.2))) else none
noncomputable abbrev g_X11_clears_0 (n : Nat) (a0 : Nat) (M : Mem) : Option (Unit × Mem) := lp (st_X11_clears n) (0, [.ref a0], M)
set_option maxHeartbeats 4000000 in
set_option maxRecDepth 100000 in
theorem ge_X11_clears_0 (n : Nat) (a0 : Nat) (M : Mem) : g_X11_clears_0 n a0 M = T_X11_clears_0 (fun c l M => lp (st_X11_clears n) (c, l, M)) (fun v M => some (v, M)) none n a0 M := (lp_eq _ _).trans (n_X11_clears_0 (lpK (st_X11_clears n)) (fun c l M => some (.inl (c, l, M))) (fun v M => some (.inr (v, M))) none n a0 M)
noncomputable abbrev g_X11_clears_7 (n : Nat) (a0 : Nat) (x1 : Int32) (M : Mem) : Option (Unit × Mem) := lp (st_X11_clears n) (7, [.ref a0, .int x1], M)
set_option maxHeartbeats 4000000 in
set_option maxRecDepth 100000 in
theorem ge_X11_clears_7 (n : Nat) (a0 : Nat) (x1 : Int32) (M : Mem) : g_X11_clears_7 n a0 x1 M = T_X11_clears_7 (fun c l M => lp (st_X11_clears n) (c, l, M)) (fun v M => some (v, M)) none n a0 x1 M := (lp_eq _ _).trans (n_X11_clears_7 (lpK (st_X11_clears n)) (fun c l M => some (.inl (c, l, M))) (fun v M => some (.inr (v, M))) none n a0 x1 M)
noncomputable def b_X11_clears (n : Nat) (a0 : Nat) (M : Mem) : Option (Unit × Mem) := g_X11_clears_0 n a0 M
set_option maxHeartbeats 4000000 in
set_option maxRecDepth 100000 in
theorem sb_X11_clears {X : Nat × (Nat → Int32)} {al : Bool} {n : Nat} {a0 : Nat} {M : Mem} {v : Unit} {M1 : Mem} (h : b_X11_clears n a0 M = some (v, M1)) : AE yX11_clears cX11_clears 2 none al n X [.ref a0] M none M1 := by
  refine AM.of false (by decide +kernel) (by intro h; cases h) (Nat.le_of_ble_eq_true rfl) ?_
  refine lp_snd (P := fun s r => PW_X11_clears X al n (fun v M2 => v = none ∧ M2 = r.2) s.1 s.2.1 s.2.2) ?_ h
  clear h
  rintro ⟨c, l, M⟩ r h
  unfold st_X11_clears at h
  rcases ite_p h with ⟨e, h⟩ | ⟨e, h⟩
  · replace e : c = 0 := e
    subst e
    obtain ⟨a0, tt0, e, h⟩ := vR_p id h
    replace e : l = _ := e
    subst e
    obtain ⟨e, h⟩ := vE_p id h
    replace e : tt0 = [] := e
    subst e
    exact w_X11_clears_0 (J := fun c l M => PW_X11_clears X al n (fun v M2 => v = none ∧ M2 = r.2) c l M) (R := fun v M => (v, M) = r) (fun _ _ _ h => h) (fun v M h => by cases h; exact ⟨rfl, rfl⟩) ((n_X11_clears_0 (lpP (fun (s : Sg) (r : Unit × Mem) => PW_X11_clears X al n (fun v M2 => v = none ∧ M2 = r.2) s.1 s.2.1 s.2.2) r) (fun c l M => some (.inl (c, l, M))) (fun v M => some (.inr (v, M))) none n a0 M).mp h)
  rcases ite_p h with ⟨e, h⟩ | ⟨e, h⟩
  · replace e : c = 7 := e
    subst e
    obtain ⟨a0, tt0, e, h⟩ := vR_p id h
    replace e : l = _ := e
    subst e
    obtain ⟨x1, tt1, e, h⟩ := vI_p id h
    replace e : tt0 = _ := e
    subst e
    obtain ⟨e, h⟩ := vE_p id h
    replace e : tt1 = [] := e
    subst e
    exact w_X11_clears_7 (J := fun c l M => PW_X11_clears X al n (fun v M2 => v = none ∧ M2 = r.2) c l M) (R := fun v M => (v, M) = r) (fun _ _ _ h => h) (fun v M h => by cases h; exact ⟨rfl, rfl⟩) ((n_X11_clears_7 (lpP (fun (s : Sg) (r : Unit × Mem) => PW_X11_clears X al n (fun v M2 => v = none ∧ M2 = r.2) s.1 s.2.1 s.2.2) r) (fun c l M => some (.inl (c, l, M))) (fun v M => some (.inr (v, M))) none n a0 x1 M).mp h)
  · exact h.elim

noncomputable abbrev f_X11_clears := b_X11_clears
theorem s_X11_clears {X : Nat × (Nat → Int32)} {al : Bool} {n : Nat} {a0 : Nat} {M : Mem} {v : Unit} {M1 : Mem} (h : f_X11_clears n a0 M = some (v, M1)) : AE yX11_clears cX11_clears 2 none al n X [.ref a0] M none M1 := sb_X11_clears h
def ix_X11_formula (c : Nat) : List Nat := if c = 0 then [0, 1, 2, 3] else if c = 27 then [0, 1, 2, 3, 4, 5] else []
def PW_X11_formula (X : Nat × (Nat → Int32)) (al : Bool) (n : Nat) (Q : Option Value → Mem → Prop) (c : Nat) (l : List Value) (M : Mem) : Prop := AW X (RX11, cX11_formula, 6, (some .int), false, al, n) 0 0 c (List.zip (ix_X11_formula c) l) (l.drop (ix_X11_formula c).length) M Q
set_option maxHeartbeats 4000000 in
set_option maxRecDepth 100000 in
noncomputable def T_X11_formula_0.{u} {α : Sort u} (J : Nat → List Value → Mem → α) (R : Int32 → Mem → α) (N : α) (n : Nat) (a0 : Nat) (x1 : Int32) (x2 : Int32) (x3 : Int32) (M : Mem) : α := gd (fO M a0 11) N (bnd (M.2.2.2.2 a0 5) N (fun r3 => gd (fA M r3 1 (((x1 + (31 * x2)) + (577 * x3)) &&& 1023)) N (J 27 [.ref a0, .int x1, .int x2, .int x3, .int (((x1 + (31 * x2)) + (577 * x3)) &&& 1023), .int (M.2.2.1 r3 ((((x1 + (31 * x2)) + (577 * x3)) &&& 1023).toNatClampNeg))] M)))
set_option maxHeartbeats 4000000 in
set_option maxRecDepth 100000 in
theorem n_X11_formula_0.{u, v} {α : Sort u} {β : Sort v} (h : α → β) (J : Nat → List Value → Mem → α) (R : Int32 → Mem → α) (N : α) (n : Nat) (a0 : Nat) (x1 : Int32) (x2 : Int32) (x3 : Int32) (M : Mem) : h (T_X11_formula_0 J R N n a0 x1 x2 x3 M) = T_X11_formula_0 (fun c l M => h (J c l M)) (fun v M => h (R v M)) (h N) n a0 x1 x2 x3 M := by
  simp only [T_X11_formula_0, nat_ite h, nat_gd h, nat_bnd h, nat_bnd2 h]
set_option maxHeartbeats 4000000 in
set_option maxRecDepth 100000 in
theorem w_X11_formula_0 {X : Nat × (Nat → Int32)} {al : Bool} {n : Nat} {Q : Option Value → Mem → Prop} {J : Nat → List Value → Mem → Prop} (hJ : ∀ c l M, J c l M → PW_X11_formula X al n Q c l M) {R : Int32 → Mem → Prop} (hR : ∀ v M, R v M → Q (some (.int v)) M) {a0 : Nat} {x1 : Int32} {x2 : Int32} {x3 : Int32} {M : Mem} (h : T_X11_formula_0 J R False n a0 x1 x2 x3 M) : AW X (RX11, cX11_formula, 6, (some .int), false, al, n) 0 0 0 [(0, .ref a0), (1, .int x1), (2, .int x2), (3, .int x3)] [] M Q := by
  unfold T_X11_formula_0 at h
  refine a_iload_n dX11_formula_0 rfl rfl ?_
  refine a_bipush (v := 31) dX11_formula_1 (by decide) ?_
  refine a_iload_n dX11_formula_3 rfl rfl ?_
  refine a_imul dX11_formula_4 ?_
  refine a_iadd dX11_formula_5 ?_
  refine a_sipush (v := 577) dX11_formula_6 (by decide) ?_
  refine a_iload_n dX11_formula_9 rfl rfl ?_
  refine a_imul dX11_formula_10 ?_
  refine a_iadd dX11_formula_11 ?_
  refine a_sipush (v := 1023) dX11_formula_12 (by decide) ?_
  refine a_iand dX11_formula_15 ?_
  refine a_istore dX11_formula_16 (Nat.le_of_ble_eq_true rfl) (lv2 := [(4, .int (((x1 + (31 * x2)) + (577 * x3)) &&& 1023)), (0, .ref a0), (1, .int x1), (2, .int x2), (3, .int x3)]) rfl ?_
  refine a_aload_n dX11_formula_18 rfl rfl ?_
  obtain ⟨⟨ga1, gs2⟩, h⟩ := gd_t h
  obtain ⟨r3, e4, h⟩ := bnd_t h
  refine a_get (v := .ref r3) dX11_formula_19 fl_11_26 ga1 gs2 (gvR e4 rfl) ?_
  refine a_iload dX11_formula_22 rfl ?_
  obtain ⟨⟨ga5, gn6, gs7, gi8⟩, h⟩ := gd_t h
  refine a_iaload dX11_formula_24 ga5 gs7 gi8 ?_
  refine a_istore dX11_formula_25 (Nat.le_of_ble_eq_true rfl) (lv2 := [(5, .int (M.2.2.1 r3 ((((x1 + (31 * x2)) + (577 * x3)) &&& 1023).toNatClampNeg))), (4, .int (((x1 + (31 * x2)) + (577 * x3)) &&& 1023)), (0, .ref a0), (1, .int x1), (2, .int x2), (3, .int x3)]) rfl ?_
  exact a_lv (lv2 := [(0, .ref a0), (1, .int x1), (2, .int x2), (3, .int x3), (4, .int (((x1 + (31 * x2)) + (577 * x3)) &&& 1023)), (5, .int (M.2.2.1 r3 ((((x1 + (31 * x2)) + (577 * x3)) &&& 1023).toNatClampNeg)))]) (fa_cons rfl (fa_cons rfl (fa_cons rfl (fa_cons rfl (fa_cons rfl (fa_cons rfl fa_nil)))))) (hJ _ _ _ h)
set_option maxHeartbeats 4000000 in
set_option maxRecDepth 100000 in
noncomputable def T_X11_formula_27.{u} {α : Sort u} (J : Nat → List Value → Mem → α) (R : Int32 → Mem → α) (N : α) (n : Nat) (a0 : Nat) (x1 : Int32) (x2 : Int32) (x3 : Int32) (x4 : Int32) (x5 : Int32) (M : Mem) : α := if x5 = (-1) then gd (fO M a0 11) N (bnd (M.2.2.2.2 a0 1) N (fun r4 => gd (fA M r4 1 (M.2.2.1 a0 7)) N (bnd (M.2.2.2.2 a0 2) N (fun r10 => gd (fA M r10 1 ((wI M r4 ((M.2.2.1 a0 7).toNatClampNeg) x1).2.2.1 a0 7)) N (bnd (M.2.2.2.2 a0 3) N (fun r16 => gd (fA M r16 1 ((wI (wI M r4 ((M.2.2.1 a0 7).toNatClampNeg) x1) r10 (((wI M r4 ((M.2.2.1 a0 7).toNatClampNeg) x1).2.2.1 a0 7).toNatClampNeg) x2).2.2.1 a0 7)) N (bnd (M.2.2.2.2 a0 4) N (fun r22 => bnd (M.2.2.2.2 a0 5) N (fun r24 => gd (fA M r24 1 x4) N (gd (fA M r22 1 ((wI (wI (wI M r4 ((M.2.2.1 a0 7).toNatClampNeg) x1) r10 (((wI M r4 ((M.2.2.1 a0 7).toNatClampNeg) x1).2.2.1 a0 7).toNatClampNeg) x2) r16 (((wI (wI M r4 ((M.2.2.1 a0 7).toNatClampNeg) x1) r10 (((wI M r4 ((M.2.2.1 a0 7).toNatClampNeg) x1).2.2.1 a0 7).toNatClampNeg) x2).2.2.1 a0 7).toNatClampNeg) x3).2.2.1 a0 7)) N (R (((wI (wI (wI (wI (wI (wI M r4 ((M.2.2.1 a0 7).toNatClampNeg) x1) r10 (((wI M r4 ((M.2.2.1 a0 7).toNatClampNeg) x1).2.2.1 a0 7).toNatClampNeg) x2) r16 (((wI (wI M r4 ((M.2.2.1 a0 7).toNatClampNeg) x1) r10 (((wI M r4 ((M.2.2.1 a0 7).toNatClampNeg) x1).2.2.1 a0 7).toNatClampNeg) x2).2.2.1 a0 7).toNatClampNeg) x3) r22 (((wI (wI (wI M r4 ((M.2.2.1 a0 7).toNatClampNeg) x1) r10 (((wI M r4 ((M.2.2.1 a0 7).toNatClampNeg) x1).2.2.1 a0 7).toNatClampNeg) x2) r16 (((wI (wI M r4 ((M.2.2.1 a0 7).toNatClampNeg) x1) r10 (((wI M r4 ((M.2.2.1 a0 7).toNatClampNeg) x1).2.2.1 a0 7).toNatClampNeg) x2).2.2.1 a0 7).toNatClampNeg) x3).2.2.1 a0 7).toNatClampNeg) ((wI (wI (wI M r4 ((M.2.2.1 a0 7).toNatClampNeg) x1) r10 (((wI M r4 ((M.2.2.1 a0 7).toNatClampNeg) x1).2.2.1 a0 7).toNatClampNeg) x2) r16 (((wI (wI M r4 ((M.2.2.1 a0 7).toNatClampNeg) x1) r10 (((wI M r4 ((M.2.2.1 a0 7).toNatClampNeg) x1).2.2.1 a0 7).toNatClampNeg) x2).2.2.1 a0 7).toNatClampNeg) x3).2.2.1 r24 (x4.toNatClampNeg))) r24 (x4.toNatClampNeg) ((wI (wI (wI (wI M r4 ((M.2.2.1 a0 7).toNatClampNeg) x1) r10 (((wI M r4 ((M.2.2.1 a0 7).toNatClampNeg) x1).2.2.1 a0 7).toNatClampNeg) x2) r16 (((wI (wI M r4 ((M.2.2.1 a0 7).toNatClampNeg) x1) r10 (((wI M r4 ((M.2.2.1 a0 7).toNatClampNeg) x1).2.2.1 a0 7).toNatClampNeg) x2).2.2.1 a0 7).toNatClampNeg) x3) r22 (((wI (wI (wI M r4 ((M.2.2.1 a0 7).toNatClampNeg) x1) r10 (((wI M r4 ((M.2.2.1 a0 7).toNatClampNeg) x1).2.2.1 a0 7).toNatClampNeg) x2) r16 (((wI (wI M r4 ((M.2.2.1 a0 7).toNatClampNeg) x1) r10 (((wI M r4 ((M.2.2.1 a0 7).toNatClampNeg) x1).2.2.1 a0 7).toNatClampNeg) x2).2.2.1 a0 7).toNatClampNeg) x3).2.2.1 a0 7).toNatClampNeg) ((wI (wI (wI M r4 ((M.2.2.1 a0 7).toNatClampNeg) x1) r10 (((wI M r4 ((M.2.2.1 a0 7).toNatClampNeg) x1).2.2.1 a0 7).toNatClampNeg) x2) r16 (((wI (wI M r4 ((M.2.2.1 a0 7).toNatClampNeg) x1) r10 (((wI M r4 ((M.2.2.1 a0 7).toNatClampNeg) x1).2.2.1 a0 7).toNatClampNeg) x2).2.2.1 a0 7).toNatClampNeg) x3).2.2.1 r24 (x4.toNatClampNeg))).2.2.1 a0 7)) a0 7 (((wI (wI (wI (wI (wI M r4 ((M.2.2.1 a0 7).toNatClampNeg) x1) r10 (((wI M r4 ((M.2.2.1 a0 7).toNatClampNeg) x1).2.2.1 a0 7).toNatClampNeg) x2) r16 (((wI (wI M r4 ((M.2.2.1 a0 7).toNatClampNeg) x1) r10 (((wI M r4 ((M.2.2.1 a0 7).toNatClampNeg) x1).2.2.1 a0 7).toNatClampNeg) x2).2.2.1 a0 7).toNatClampNeg) x3) r22 (((wI (wI (wI M r4 ((M.2.2.1 a0 7).toNatClampNeg) x1) r10 (((wI M r4 ((M.2.2.1 a0 7).toNatClampNeg) x1).2.2.1 a0 7).toNatClampNeg) x2) r16 (((wI (wI M r4 ((M.2.2.1 a0 7).toNatClampNeg) x1) r10 (((wI M r4 ((M.2.2.1 a0 7).toNatClampNeg) x1).2.2.1 a0 7).toNatClampNeg) x2).2.2.1 a0 7).toNatClampNeg) x3).2.2.1 a0 7).toNatClampNeg) ((wI (wI (wI M r4 ((M.2.2.1 a0 7).toNatClampNeg) x1) r10 (((wI M r4 ((M.2.2.1 a0 7).toNatClampNeg) x1).2.2.1 a0 7).toNatClampNeg) x2) r16 (((wI (wI M r4 ((M.2.2.1 a0 7).toNatClampNeg) x1) r10 (((wI M r4 ((M.2.2.1 a0 7).toNatClampNeg) x1).2.2.1 a0 7).toNatClampNeg) x2).2.2.1 a0 7).toNatClampNeg) x3).2.2.1 r24 (x4.toNatClampNeg))) r24 (x4.toNatClampNeg) ((wI (wI (wI (wI M r4 ((M.2.2.1 a0 7).toNatClampNeg) x1) r10 (((wI M r4 ((M.2.2.1 a0 7).toNatClampNeg) x1).2.2.1 a0 7).toNatClampNeg) x2) r16 (((wI (wI M r4 ((M.2.2.1 a0 7).toNatClampNeg) x1) r10 (((wI M r4 ((M.2.2.1 a0 7).toNatClampNeg) x1).2.2.1 a0 7).toNatClampNeg) x2).2.2.1 a0 7).toNatClampNeg) x3) r22 (((wI (wI (wI M r4 ((M.2.2.1 a0 7).toNatClampNeg) x1) r10 (((wI M r4 ((M.2.2.1 a0 7).toNatClampNeg) x1).2.2.1 a0 7).toNatClampNeg) x2) r16 (((wI (wI M r4 ((M.2.2.1 a0 7).toNatClampNeg) x1) r10 (((wI M r4 ((M.2.2.1 a0 7).toNatClampNeg) x1).2.2.1 a0 7).toNatClampNeg) x2).2.2.1 a0 7).toNatClampNeg) x3).2.2.1 a0 7).toNatClampNeg) ((wI (wI (wI M r4 ((M.2.2.1 a0 7).toNatClampNeg) x1) r10 (((wI M r4 ((M.2.2.1 a0 7).toNatClampNeg) x1).2.2.1 a0 7).toNatClampNeg) x2) r16 (((wI (wI M r4 ((M.2.2.1 a0 7).toNatClampNeg) x1) r10 (((wI M r4 ((M.2.2.1 a0 7).toNatClampNeg) x1).2.2.1 a0 7).toNatClampNeg) x2).2.2.1 a0 7).toNatClampNeg) x3).2.2.1 r24 (x4.toNatClampNeg))).2.2.1 a0 7)).2.2.1 a0 7) + 1)).2.2.1 a0 7) - 1) (wI (wI (wI (wI (wI (wI M r4 ((M.2.2.1 a0 7).toNatClampNeg) x1) r10 (((wI M r4 ((M.2.2.1 a0 7).toNatClampNeg) x1).2.2.1 a0 7).toNatClampNeg) x2) r16 (((wI (wI M r4 ((M.2.2.1 a0 7).toNatClampNeg) x1) r10 (((wI M r4 ((M.2.2.1 a0 7).toNatClampNeg) x1).2.2.1 a0 7).toNatClampNeg) x2).2.2.1 a0 7).toNatClampNeg) x3) r22 (((wI (wI (wI M r4 ((M.2.2.1 a0 7).toNatClampNeg) x1) r10 (((wI M r4 ((M.2.2.1 a0 7).toNatClampNeg) x1).2.2.1 a0 7).toNatClampNeg) x2) r16 (((wI (wI M r4 ((M.2.2.1 a0 7).toNatClampNeg) x1) r10 (((wI M r4 ((M.2.2.1 a0 7).toNatClampNeg) x1).2.2.1 a0 7).toNatClampNeg) x2).2.2.1 a0 7).toNatClampNeg) x3).2.2.1 a0 7).toNatClampNeg) ((wI (wI (wI M r4 ((M.2.2.1 a0 7).toNatClampNeg) x1) r10 (((wI M r4 ((M.2.2.1 a0 7).toNatClampNeg) x1).2.2.1 a0 7).toNatClampNeg) x2) r16 (((wI (wI M r4 ((M.2.2.1 a0 7).toNatClampNeg) x1) r10 (((wI M r4 ((M.2.2.1 a0 7).toNatClampNeg) x1).2.2.1 a0 7).toNatClampNeg) x2).2.2.1 a0 7).toNatClampNeg) x3).2.2.1 r24 (x4.toNatClampNeg))) r24 (x4.toNatClampNeg) ((wI (wI (wI (wI M r4 ((M.2.2.1 a0 7).toNatClampNeg) x1) r10 (((wI M r4 ((M.2.2.1 a0 7).toNatClampNeg) x1).2.2.1 a0 7).toNatClampNeg) x2) r16 (((wI (wI M r4 ((M.2.2.1 a0 7).toNatClampNeg) x1) r10 (((wI M r4 ((M.2.2.1 a0 7).toNatClampNeg) x1).2.2.1 a0 7).toNatClampNeg) x2).2.2.1 a0 7).toNatClampNeg) x3) r22 (((wI (wI (wI M r4 ((M.2.2.1 a0 7).toNatClampNeg) x1) r10 (((wI M r4 ((M.2.2.1 a0 7).toNatClampNeg) x1).2.2.1 a0 7).toNatClampNeg) x2) r16 (((wI (wI M r4 ((M.2.2.1 a0 7).toNatClampNeg) x1) r10 (((wI M r4 ((M.2.2.1 a0 7).toNatClampNeg) x1).2.2.1 a0 7).toNatClampNeg) x2).2.2.1 a0 7).toNatClampNeg) x3).2.2.1 a0 7).toNatClampNeg) ((wI (wI (wI M r4 ((M.2.2.1 a0 7).toNatClampNeg) x1) r10 (((wI M r4 ((M.2.2.1 a0 7).toNatClampNeg) x1).2.2.1 a0 7).toNatClampNeg) x2) r16 (((wI (wI M r4 ((M.2.2.1 a0 7).toNatClampNeg) x1) r10 (((wI M r4 ((M.2.2.1 a0 7).toNatClampNeg) x1).2.2.1 a0 7).toNatClampNeg) x2).2.2.1 a0 7).toNatClampNeg) x3).2.2.1 r24 (x4.toNatClampNeg))).2.2.1 a0 7)) a0 7 (((wI (wI (wI (wI (wI M r4 ((M.2.2.1 a0 7).toNatClampNeg) x1) r10 (((wI M r4 ((M.2.2.1 a0 7).toNatClampNeg) x1).2.2.1 a0 7).toNatClampNeg) x2) r16 (((wI (wI M r4 ((M.2.2.1 a0 7).toNatClampNeg) x1) r10 (((wI M r4 ((M.2.2.1 a0 7).toNatClampNeg) x1).2.2.1 a0 7).toNatClampNeg) x2).2.2.1 a0 7).toNatClampNeg) x3) r22 (((wI (wI (wI M r4 ((M.2.2.1 a0 7).toNatClampNeg) x1) r10 (((wI M r4 ((M.2.2.1 a0 7).toNatClampNeg) x1).2.2.1 a0 7).toNatClampNeg) x2) r16 (((wI (wI M r4 ((M.2.2.1 a0 7).toNatClampNeg) x1) r10 (((wI M r4 ((M.2.2.1 a0 7).toNatClampNeg) x1).2.2.1 a0 7).toNatClampNeg) x2).2.2.1 a0 7).toNatClampNeg) x3).2.2.1 a0 7).toNatClampNeg) ((wI (wI (wI M r4 ((M.2.2.1 a0 7).toNatClampNeg) x1) r10 (((wI M r4 ((M.2.2.1 a0 7).toNatClampNeg) x1).2.2.1 a0 7).toNatClampNeg) x2) r16 (((wI (wI M r4 ((M.2.2.1 a0 7).toNatClampNeg) x1) r10 (((wI M r4 ((M.2.2.1 a0 7).toNatClampNeg) x1).2.2.1 a0 7).toNatClampNeg) x2).2.2.1 a0 7).toNatClampNeg) x3).2.2.1 r24 (x4.toNatClampNeg))) r24 (x4.toNatClampNeg) ((wI (wI (wI (wI M r4 ((M.2.2.1 a0 7).toNatClampNeg) x1) r10 (((wI M r4 ((M.2.2.1 a0 7).toNatClampNeg) x1).2.2.1 a0 7).toNatClampNeg) x2) r16 (((wI (wI M r4 ((M.2.2.1 a0 7).toNatClampNeg) x1) r10 (((wI M r4 ((M.2.2.1 a0 7).toNatClampNeg) x1).2.2.1 a0 7).toNatClampNeg) x2).2.2.1 a0 7).toNatClampNeg) x3) r22 (((wI (wI (wI M r4 ((M.2.2.1 a0 7).toNatClampNeg) x1) r10 (((wI M r4 ((M.2.2.1 a0 7).toNatClampNeg) x1).2.2.1 a0 7).toNatClampNeg) x2) r16 (((wI (wI M r4 ((M.2.2.1 a0 7).toNatClampNeg) x1) r10 (((wI M r4 ((M.2.2.1 a0 7).toNatClampNeg) x1).2.2.1 a0 7).toNatClampNeg) x2).2.2.1 a0 7).toNatClampNeg) x3).2.2.1 a0 7).toNatClampNeg) ((wI (wI (wI M r4 ((M.2.2.1 a0 7).toNatClampNeg) x1) r10 (((wI M r4 ((M.2.2.1 a0 7).toNatClampNeg) x1).2.2.1 a0 7).toNatClampNeg) x2) r16 (((wI (wI M r4 ((M.2.2.1 a0 7).toNatClampNeg) x1) r10 (((wI M r4 ((M.2.2.1 a0 7).toNatClampNeg) x1).2.2.1 a0 7).toNatClampNeg) x2).2.2.1 a0 7).toNatClampNeg) x3).2.2.1 r24 (x4.toNatClampNeg))).2.2.1 a0 7)).2.2.1 a0 7) + 1))))))))))))) else gd (fO M a0 11) N (bnd (M.2.2.2.2 a0 1) N (fun r36 => gd (fA M r36 1 x5) N (if (M.2.2.1 r36 (x5.toNatClampNeg)) = x1 then bnd (M.2.2.2.2 a0 2) N (fun r49 => gd (fA M r49 1 x5) N (if (M.2.2.1 r49 (x5.toNatClampNeg)) = x2 then bnd (M.2.2.2.2 a0 3) N (fun r62 => gd (fA M r62 1 x5) N (if (M.2.2.1 r62 (x5.toNatClampNeg)) = x3 then R x5 M else bnd (M.2.2.2.2 a0 4) N (fun r69 => gd (fA M r69 1 x5) N (J 27 [.ref a0, .int x1, .int x2, .int x3, .int x4, .int (M.2.2.1 r69 (x5.toNatClampNeg))] M)))) else bnd (M.2.2.2.2 a0 4) N (fun r56 => gd (fA M r56 1 x5) N (J 27 [.ref a0, .int x1, .int x2, .int x3, .int x4, .int (M.2.2.1 r56 (x5.toNatClampNeg))] M)))) else bnd (M.2.2.2.2 a0 4) N (fun r43 => gd (fA M r43 1 x5) N (J 27 [.ref a0, .int x1, .int x2, .int x3, .int x4, .int (M.2.2.1 r43 (x5.toNatClampNeg))] M)))))
set_option maxHeartbeats 4000000 in
set_option maxRecDepth 100000 in
theorem n_X11_formula_27.{u, v} {α : Sort u} {β : Sort v} (h : α → β) (J : Nat → List Value → Mem → α) (R : Int32 → Mem → α) (N : α) (n : Nat) (a0 : Nat) (x1 : Int32) (x2 : Int32) (x3 : Int32) (x4 : Int32) (x5 : Int32) (M : Mem) : h (T_X11_formula_27 J R N n a0 x1 x2 x3 x4 x5 M) = T_X11_formula_27 (fun c l M => h (J c l M)) (fun v M => h (R v M)) (h N) n a0 x1 x2 x3 x4 x5 M := by
  simp only [T_X11_formula_27, nat_ite h, nat_gd h, nat_bnd h, nat_bnd2 h]
set_option maxHeartbeats 4000000 in
set_option maxRecDepth 100000 in
theorem w_X11_formula_27 {X : Nat × (Nat → Int32)} {al : Bool} {n : Nat} {Q : Option Value → Mem → Prop} {J : Nat → List Value → Mem → Prop} (hJ : ∀ c l M, J c l M → PW_X11_formula X al n Q c l M) {R : Int32 → Mem → Prop} (hR : ∀ v M, R v M → Q (some (.int v)) M) {a0 : Nat} {x1 : Int32} {x2 : Int32} {x3 : Int32} {x4 : Int32} {x5 : Int32} {M : Mem} (h : T_X11_formula_27 J R False n a0 x1 x2 x3 x4 x5 M) : AW X (RX11, cX11_formula, 6, (some .int), false, al, n) 0 0 27 [(0, .ref a0), (1, .int x1), (2, .int x2), (3, .int x3), (4, .int x4), (5, .int x5)] [] M Q := by
  unfold T_X11_formula_27 at h
  refine a_iload dX11_formula_27 rfl ?_
  refine a_iconst (v := -1) dX11_formula_29 (by decide) ?_
  refine a_icmp_eq 81 dX11_formula_30 (by decide) (fun c1 => ?_) (fun c1 => ?_)
  · replace h := ite_t c1 h
    refine a_aload_n dX11_formula_81 rfl rfl ?_
    obtain ⟨⟨ga2, gs3⟩, h⟩ := gd_t h
    obtain ⟨r4, e5, h⟩ := bnd_t h
    refine a_get (v := .ref r4) dX11_formula_82 fl_11_13 ga2 gs3 (gvR e5 rfl) ?_
    refine a_aload_n dX11_formula_85 rfl rfl ?_
    refine a_get (v := .int (M.2.2.1 a0 7)) dX11_formula_86 fl_11_137 ga2 gs3 rfl ?_
    refine a_iload_n dX11_formula_89 rfl rfl ?_
    obtain ⟨⟨ga6, gn7, gs8, gi9⟩, h⟩ := gd_t h
    refine a_iastore dX11_formula_90 ga6 gs8 gi9 ?_
    refine a_aload_n dX11_formula_91 rfl rfl ?_
    obtain ⟨r10, e11, h⟩ := bnd_t h
    refine a_get (v := .ref r10) dX11_formula_92 fl_11_17 ga2 gs3 (gvR e11 rfl) ?_
    refine a_aload_n dX11_formula_95 rfl rfl ?_
    refine a_get (v := .int ((wI M r4 ((M.2.2.1 a0 7).toNatClampNeg) x1).2.2.1 a0 7)) dX11_formula_96 fl_11_137 ga2 gs3 rfl ?_
    refine a_iload_n dX11_formula_99 rfl rfl ?_
    obtain ⟨⟨ga12, gn13, gs14, gi15⟩, h⟩ := gd_t h
    refine a_iastore dX11_formula_100 ga12 gs14 gi15 ?_
    refine a_aload_n dX11_formula_101 rfl rfl ?_
    obtain ⟨r16, e17, h⟩ := bnd_t h
    refine a_get (v := .ref r16) dX11_formula_102 fl_11_20 ga2 gs3 (gvR e17 rfl) ?_
    refine a_aload_n dX11_formula_105 rfl rfl ?_
    refine a_get (v := .int ((wI (wI M r4 ((M.2.2.1 a0 7).toNatClampNeg) x1) r10 (((wI M r4 ((M.2.2.1 a0 7).toNatClampNeg) x1).2.2.1 a0 7).toNatClampNeg) x2).2.2.1 a0 7)) dX11_formula_106 fl_11_137 ga2 gs3 rfl ?_
    refine a_iload_n dX11_formula_109 rfl rfl ?_
    obtain ⟨⟨ga18, gn19, gs20, gi21⟩, h⟩ := gd_t h
    refine a_iastore dX11_formula_110 ga18 gs20 gi21 ?_
    refine a_aload_n dX11_formula_111 rfl rfl ?_
    obtain ⟨r22, e23, h⟩ := bnd_t h
    refine a_get (v := .ref r22) dX11_formula_112 fl_11_23 ga2 gs3 (gvR e23 rfl) ?_
    refine a_aload_n dX11_formula_115 rfl rfl ?_
    refine a_get (v := .int ((wI (wI (wI M r4 ((M.2.2.1 a0 7).toNatClampNeg) x1) r10 (((wI M r4 ((M.2.2.1 a0 7).toNatClampNeg) x1).2.2.1 a0 7).toNatClampNeg) x2) r16 (((wI (wI M r4 ((M.2.2.1 a0 7).toNatClampNeg) x1) r10 (((wI M r4 ((M.2.2.1 a0 7).toNatClampNeg) x1).2.2.1 a0 7).toNatClampNeg) x2).2.2.1 a0 7).toNatClampNeg) x3).2.2.1 a0 7)) dX11_formula_116 fl_11_137 ga2 gs3 rfl ?_
    refine a_aload_n dX11_formula_119 rfl rfl ?_
    obtain ⟨r24, e25, h⟩ := bnd_t h
    refine a_get (v := .ref r24) dX11_formula_120 fl_11_26 ga2 gs3 (gvR e25 rfl) ?_
    refine a_iload dX11_formula_123 rfl ?_
    obtain ⟨⟨ga26, gn27, gs28, gi29⟩, h⟩ := gd_t h
    refine a_iaload dX11_formula_125 ga26 gs28 gi29 ?_
    obtain ⟨⟨ga30, gn31, gs32, gi33⟩, h⟩ := gd_t h
    refine a_iastore dX11_formula_126 ga30 gs32 gi33 ?_
    refine a_aload_n dX11_formula_127 rfl rfl ?_
    refine a_get (v := .ref r24) dX11_formula_128 fl_11_26 ga2 gs3 (gvR e25 rfl) ?_
    refine a_iload dX11_formula_131 rfl ?_
    refine a_aload_n dX11_formula_133 rfl rfl ?_
    refine a_get (v := .int ((wI (wI (wI (wI M r4 ((M.2.2.1 a0 7).toNatClampNeg) x1) r10 (((wI M r4 ((M.2.2.1 a0 7).toNatClampNeg) x1).2.2.1 a0 7).toNatClampNeg) x2) r16 (((wI (wI M r4 ((M.2.2.1 a0 7).toNatClampNeg) x1) r10 (((wI M r4 ((M.2.2.1 a0 7).toNatClampNeg) x1).2.2.1 a0 7).toNatClampNeg) x2).2.2.1 a0 7).toNatClampNeg) x3) r22 (((wI (wI (wI M r4 ((M.2.2.1 a0 7).toNatClampNeg) x1) r10 (((wI M r4 ((M.2.2.1 a0 7).toNatClampNeg) x1).2.2.1 a0 7).toNatClampNeg) x2) r16 (((wI (wI M r4 ((M.2.2.1 a0 7).toNatClampNeg) x1) r10 (((wI M r4 ((M.2.2.1 a0 7).toNatClampNeg) x1).2.2.1 a0 7).toNatClampNeg) x2).2.2.1 a0 7).toNatClampNeg) x3).2.2.1 a0 7).toNatClampNeg) ((wI (wI (wI M r4 ((M.2.2.1 a0 7).toNatClampNeg) x1) r10 (((wI M r4 ((M.2.2.1 a0 7).toNatClampNeg) x1).2.2.1 a0 7).toNatClampNeg) x2) r16 (((wI (wI M r4 ((M.2.2.1 a0 7).toNatClampNeg) x1) r10 (((wI M r4 ((M.2.2.1 a0 7).toNatClampNeg) x1).2.2.1 a0 7).toNatClampNeg) x2).2.2.1 a0 7).toNatClampNeg) x3).2.2.1 r24 (x4.toNatClampNeg))).2.2.1 a0 7)) dX11_formula_134 fl_11_137 ga2 gs3 rfl ?_
    refine a_iastore dX11_formula_137 ga26 gs28 gi29 ?_
    refine a_aload_n dX11_formula_138 rfl rfl ?_
    refine a_dup dX11_formula_139 rfl ?_
    refine a_get (v := .int ((wI (wI (wI (wI (wI M r4 ((M.2.2.1 a0 7).toNatClampNeg) x1) r10 (((wI M r4 ((M.2.2.1 a0 7).toNatClampNeg) x1).2.2.1 a0 7).toNatClampNeg) x2) r16 (((wI (wI M r4 ((M.2.2.1 a0 7).toNatClampNeg) x1) r10 (((wI M r4 ((M.2.2.1 a0 7).toNatClampNeg) x1).2.2.1 a0 7).toNatClampNeg) x2).2.2.1 a0 7).toNatClampNeg) x3) r22 (((wI (wI (wI M r4 ((M.2.2.1 a0 7).toNatClampNeg) x1) r10 (((wI M r4 ((M.2.2.1 a0 7).toNatClampNeg) x1).2.2.1 a0 7).toNatClampNeg) x2) r16 (((wI (wI M r4 ((M.2.2.1 a0 7).toNatClampNeg) x1) r10 (((wI M r4 ((M.2.2.1 a0 7).toNatClampNeg) x1).2.2.1 a0 7).toNatClampNeg) x2).2.2.1 a0 7).toNatClampNeg) x3).2.2.1 a0 7).toNatClampNeg) ((wI (wI (wI M r4 ((M.2.2.1 a0 7).toNatClampNeg) x1) r10 (((wI M r4 ((M.2.2.1 a0 7).toNatClampNeg) x1).2.2.1 a0 7).toNatClampNeg) x2) r16 (((wI (wI M r4 ((M.2.2.1 a0 7).toNatClampNeg) x1) r10 (((wI M r4 ((M.2.2.1 a0 7).toNatClampNeg) x1).2.2.1 a0 7).toNatClampNeg) x2).2.2.1 a0 7).toNatClampNeg) x3).2.2.1 r24 (x4.toNatClampNeg))) r24 (x4.toNatClampNeg) ((wI (wI (wI (wI M r4 ((M.2.2.1 a0 7).toNatClampNeg) x1) r10 (((wI M r4 ((M.2.2.1 a0 7).toNatClampNeg) x1).2.2.1 a0 7).toNatClampNeg) x2) r16 (((wI (wI M r4 ((M.2.2.1 a0 7).toNatClampNeg) x1) r10 (((wI M r4 ((M.2.2.1 a0 7).toNatClampNeg) x1).2.2.1 a0 7).toNatClampNeg) x2).2.2.1 a0 7).toNatClampNeg) x3) r22 (((wI (wI (wI M r4 ((M.2.2.1 a0 7).toNatClampNeg) x1) r10 (((wI M r4 ((M.2.2.1 a0 7).toNatClampNeg) x1).2.2.1 a0 7).toNatClampNeg) x2) r16 (((wI (wI M r4 ((M.2.2.1 a0 7).toNatClampNeg) x1) r10 (((wI M r4 ((M.2.2.1 a0 7).toNatClampNeg) x1).2.2.1 a0 7).toNatClampNeg) x2).2.2.1 a0 7).toNatClampNeg) x3).2.2.1 a0 7).toNatClampNeg) ((wI (wI (wI M r4 ((M.2.2.1 a0 7).toNatClampNeg) x1) r10 (((wI M r4 ((M.2.2.1 a0 7).toNatClampNeg) x1).2.2.1 a0 7).toNatClampNeg) x2) r16 (((wI (wI M r4 ((M.2.2.1 a0 7).toNatClampNeg) x1) r10 (((wI M r4 ((M.2.2.1 a0 7).toNatClampNeg) x1).2.2.1 a0 7).toNatClampNeg) x2).2.2.1 a0 7).toNatClampNeg) x3).2.2.1 r24 (x4.toNatClampNeg))).2.2.1 a0 7)).2.2.1 a0 7)) dX11_formula_140 fl_11_137 ga2 gs3 rfl ?_
    refine a_iconst (v := 1) dX11_formula_143 (by decide) ?_
    refine a_iadd dX11_formula_144 ?_
    refine a_putI dX11_formula_145 (Or.inl ⟨fl_11_137, Or.inl rfl⟩) rfl ga2 gs3 rfl rfl ?_
    refine a_aload_n dX11_formula_148 rfl rfl ?_
    refine a_get (v := .int ((wI (wI (wI (wI (wI (wI M r4 ((M.2.2.1 a0 7).toNatClampNeg) x1) r10 (((wI M r4 ((M.2.2.1 a0 7).toNatClampNeg) x1).2.2.1 a0 7).toNatClampNeg) x2) r16 (((wI (wI M r4 ((M.2.2.1 a0 7).toNatClampNeg) x1) r10 (((wI M r4 ((M.2.2.1 a0 7).toNatClampNeg) x1).2.2.1 a0 7).toNatClampNeg) x2).2.2.1 a0 7).toNatClampNeg) x3) r22 (((wI (wI (wI M r4 ((M.2.2.1 a0 7).toNatClampNeg) x1) r10 (((wI M r4 ((M.2.2.1 a0 7).toNatClampNeg) x1).2.2.1 a0 7).toNatClampNeg) x2) r16 (((wI (wI M r4 ((M.2.2.1 a0 7).toNatClampNeg) x1) r10 (((wI M r4 ((M.2.2.1 a0 7).toNatClampNeg) x1).2.2.1 a0 7).toNatClampNeg) x2).2.2.1 a0 7).toNatClampNeg) x3).2.2.1 a0 7).toNatClampNeg) ((wI (wI (wI M r4 ((M.2.2.1 a0 7).toNatClampNeg) x1) r10 (((wI M r4 ((M.2.2.1 a0 7).toNatClampNeg) x1).2.2.1 a0 7).toNatClampNeg) x2) r16 (((wI (wI M r4 ((M.2.2.1 a0 7).toNatClampNeg) x1) r10 (((wI M r4 ((M.2.2.1 a0 7).toNatClampNeg) x1).2.2.1 a0 7).toNatClampNeg) x2).2.2.1 a0 7).toNatClampNeg) x3).2.2.1 r24 (x4.toNatClampNeg))) r24 (x4.toNatClampNeg) ((wI (wI (wI (wI M r4 ((M.2.2.1 a0 7).toNatClampNeg) x1) r10 (((wI M r4 ((M.2.2.1 a0 7).toNatClampNeg) x1).2.2.1 a0 7).toNatClampNeg) x2) r16 (((wI (wI M r4 ((M.2.2.1 a0 7).toNatClampNeg) x1) r10 (((wI M r4 ((M.2.2.1 a0 7).toNatClampNeg) x1).2.2.1 a0 7).toNatClampNeg) x2).2.2.1 a0 7).toNatClampNeg) x3) r22 (((wI (wI (wI M r4 ((M.2.2.1 a0 7).toNatClampNeg) x1) r10 (((wI M r4 ((M.2.2.1 a0 7).toNatClampNeg) x1).2.2.1 a0 7).toNatClampNeg) x2) r16 (((wI (wI M r4 ((M.2.2.1 a0 7).toNatClampNeg) x1) r10 (((wI M r4 ((M.2.2.1 a0 7).toNatClampNeg) x1).2.2.1 a0 7).toNatClampNeg) x2).2.2.1 a0 7).toNatClampNeg) x3).2.2.1 a0 7).toNatClampNeg) ((wI (wI (wI M r4 ((M.2.2.1 a0 7).toNatClampNeg) x1) r10 (((wI M r4 ((M.2.2.1 a0 7).toNatClampNeg) x1).2.2.1 a0 7).toNatClampNeg) x2) r16 (((wI (wI M r4 ((M.2.2.1 a0 7).toNatClampNeg) x1) r10 (((wI M r4 ((M.2.2.1 a0 7).toNatClampNeg) x1).2.2.1 a0 7).toNatClampNeg) x2).2.2.1 a0 7).toNatClampNeg) x3).2.2.1 r24 (x4.toNatClampNeg))).2.2.1 a0 7)) a0 7 (((wI (wI (wI (wI (wI M r4 ((M.2.2.1 a0 7).toNatClampNeg) x1) r10 (((wI M r4 ((M.2.2.1 a0 7).toNatClampNeg) x1).2.2.1 a0 7).toNatClampNeg) x2) r16 (((wI (wI M r4 ((M.2.2.1 a0 7).toNatClampNeg) x1) r10 (((wI M r4 ((M.2.2.1 a0 7).toNatClampNeg) x1).2.2.1 a0 7).toNatClampNeg) x2).2.2.1 a0 7).toNatClampNeg) x3) r22 (((wI (wI (wI M r4 ((M.2.2.1 a0 7).toNatClampNeg) x1) r10 (((wI M r4 ((M.2.2.1 a0 7).toNatClampNeg) x1).2.2.1 a0 7).toNatClampNeg) x2) r16 (((wI (wI M r4 ((M.2.2.1 a0 7).toNatClampNeg) x1) r10 (((wI M r4 ((M.2.2.1 a0 7).toNatClampNeg) x1).2.2.1 a0 7).toNatClampNeg) x2).2.2.1 a0 7).toNatClampNeg) x3).2.2.1 a0 7).toNatClampNeg) ((wI (wI (wI M r4 ((M.2.2.1 a0 7).toNatClampNeg) x1) r10 (((wI M r4 ((M.2.2.1 a0 7).toNatClampNeg) x1).2.2.1 a0 7).toNatClampNeg) x2) r16 (((wI (wI M r4 ((M.2.2.1 a0 7).toNatClampNeg) x1) r10 (((wI M r4 ((M.2.2.1 a0 7).toNatClampNeg) x1).2.2.1 a0 7).toNatClampNeg) x2).2.2.1 a0 7).toNatClampNeg) x3).2.2.1 r24 (x4.toNatClampNeg))) r24 (x4.toNatClampNeg) ((wI (wI (wI (wI M r4 ((M.2.2.1 a0 7).toNatClampNeg) x1) r10 (((wI M r4 ((M.2.2.1 a0 7).toNatClampNeg) x1).2.2.1 a0 7).toNatClampNeg) x2) r16 (((wI (wI M r4 ((M.2.2.1 a0 7).toNatClampNeg) x1) r10 (((wI M r4 ((M.2.2.1 a0 7).toNatClampNeg) x1).2.2.1 a0 7).toNatClampNeg) x2).2.2.1 a0 7).toNatClampNeg) x3) r22 (((wI (wI (wI M r4 ((M.2.2.1 a0 7).toNatClampNeg) x1) r10 (((wI M r4 ((M.2.2.1 a0 7).toNatClampNeg) x1).2.2.1 a0 7).toNatClampNeg) x2) r16 (((wI (wI M r4 ((M.2.2.1 a0 7).toNatClampNeg) x1) r10 (((wI M r4 ((M.2.2.1 a0 7).toNatClampNeg) x1).2.2.1 a0 7).toNatClampNeg) x2).2.2.1 a0 7).toNatClampNeg) x3).2.2.1 a0 7).toNatClampNeg) ((wI (wI (wI M r4 ((M.2.2.1 a0 7).toNatClampNeg) x1) r10 (((wI M r4 ((M.2.2.1 a0 7).toNatClampNeg) x1).2.2.1 a0 7).toNatClampNeg) x2) r16 (((wI (wI M r4 ((M.2.2.1 a0 7).toNatClampNeg) x1) r10 (((wI M r4 ((M.2.2.1 a0 7).toNatClampNeg) x1).2.2.1 a0 7).toNatClampNeg) x2).2.2.1 a0 7).toNatClampNeg) x3).2.2.1 r24 (x4.toNatClampNeg))).2.2.1 a0 7)).2.2.1 a0 7) + 1)).2.2.1 a0 7)) dX11_formula_149 fl_11_137 ga2 gs3 rfl ?_
    refine a_iconst (v := 1) dX11_formula_152 (by decide) ?_
    refine a_isub dX11_formula_153 ?_
    exact a_iret dX11_formula_154 rfl (hR _ _ h)
  · replace h := ite_f c1 h
    refine a_aload_n dX11_formula_33 rfl rfl ?_
    obtain ⟨⟨ga34, gs35⟩, h⟩ := gd_t h
    obtain ⟨r36, e37, h⟩ := bnd_t h
    refine a_get (v := .ref r36) dX11_formula_34 fl_11_13 ga34 gs35 (gvR e37 rfl) ?_
    refine a_iload dX11_formula_37 rfl ?_
    obtain ⟨⟨ga38, gn39, gs40, gi41⟩, h⟩ := gd_t h
    refine a_iaload dX11_formula_39 ga38 gs40 gi41 ?_
    refine a_iload_n dX11_formula_40 rfl rfl ?_
    refine a_icmp_ne 69 dX11_formula_41 (by decide) (fun c42 => ?_) (fun c42 => ?_)
    · replace h := ite_f c42 h
      refine a_aload_n dX11_formula_69 rfl rfl ?_
      obtain ⟨r43, e44, h⟩ := bnd_t h
      refine a_get (v := .ref r43) dX11_formula_70 fl_11_23 ga34 gs35 (gvR e44 rfl) ?_
      refine a_iload dX11_formula_73 rfl ?_
      obtain ⟨⟨ga45, gn46, gs47, gi48⟩, h⟩ := gd_t h
      refine a_iaload dX11_formula_75 ga45 gs47 gi48 ?_
      refine a_istore dX11_formula_76 (Nat.le_of_ble_eq_true rfl) (lv2 := [(5, .int (M.2.2.1 r43 (x5.toNatClampNeg))), (0, .ref a0), (1, .int x1), (2, .int x2), (3, .int x3), (4, .int x4)]) rfl ?_
      refine a_goto 27 dX11_formula_78 (by decide) ?_
      exact a_lv (lv2 := [(0, .ref a0), (1, .int x1), (2, .int x2), (3, .int x3), (4, .int x4), (5, .int (M.2.2.1 r43 (x5.toNatClampNeg)))]) (fa_cons rfl (fa_cons rfl (fa_cons rfl (fa_cons rfl (fa_cons rfl (fa_cons rfl fa_nil)))))) (hJ _ _ _ h)
    · replace h := ite_t c42 h
      refine a_aload_n dX11_formula_44 rfl rfl ?_
      obtain ⟨r49, e50, h⟩ := bnd_t h
      refine a_get (v := .ref r49) dX11_formula_45 fl_11_17 ga34 gs35 (gvR e50 rfl) ?_
      refine a_iload dX11_formula_48 rfl ?_
      obtain ⟨⟨ga51, gn52, gs53, gi54⟩, h⟩ := gd_t h
      refine a_iaload dX11_formula_50 ga51 gs53 gi54 ?_
      refine a_iload_n dX11_formula_51 rfl rfl ?_
      refine a_icmp_ne 69 dX11_formula_52 (by decide) (fun c55 => ?_) (fun c55 => ?_)
      · replace h := ite_f c55 h
        refine a_aload_n dX11_formula_69 rfl rfl ?_
        obtain ⟨r56, e57, h⟩ := bnd_t h
        refine a_get (v := .ref r56) dX11_formula_70 fl_11_23 ga34 gs35 (gvR e57 rfl) ?_
        refine a_iload dX11_formula_73 rfl ?_
        obtain ⟨⟨ga58, gn59, gs60, gi61⟩, h⟩ := gd_t h
        refine a_iaload dX11_formula_75 ga58 gs60 gi61 ?_
        refine a_istore dX11_formula_76 (Nat.le_of_ble_eq_true rfl) (lv2 := [(5, .int (M.2.2.1 r56 (x5.toNatClampNeg))), (0, .ref a0), (1, .int x1), (2, .int x2), (3, .int x3), (4, .int x4)]) rfl ?_
        refine a_goto 27 dX11_formula_78 (by decide) ?_
        exact a_lv (lv2 := [(0, .ref a0), (1, .int x1), (2, .int x2), (3, .int x3), (4, .int x4), (5, .int (M.2.2.1 r56 (x5.toNatClampNeg)))]) (fa_cons rfl (fa_cons rfl (fa_cons rfl (fa_cons rfl (fa_cons rfl (fa_cons rfl fa_nil)))))) (hJ _ _ _ h)
      · replace h := ite_t c55 h
        refine a_aload_n dX11_formula_55 rfl rfl ?_
        obtain ⟨r62, e63, h⟩ := bnd_t h
        refine a_get (v := .ref r62) dX11_formula_56 fl_11_20 ga34 gs35 (gvR e63 rfl) ?_
        refine a_iload dX11_formula_59 rfl ?_
        obtain ⟨⟨ga64, gn65, gs66, gi67⟩, h⟩ := gd_t h
        refine a_iaload dX11_formula_61 ga64 gs66 gi67 ?_
        refine a_iload_n dX11_formula_62 rfl rfl ?_
        refine a_icmp_ne 69 dX11_formula_63 (by decide) (fun c68 => ?_) (fun c68 => ?_)
        · replace h := ite_f c68 h
          refine a_aload_n dX11_formula_69 rfl rfl ?_
          obtain ⟨r69, e70, h⟩ := bnd_t h
          refine a_get (v := .ref r69) dX11_formula_70 fl_11_23 ga34 gs35 (gvR e70 rfl) ?_
          refine a_iload dX11_formula_73 rfl ?_
          obtain ⟨⟨ga71, gn72, gs73, gi74⟩, h⟩ := gd_t h
          refine a_iaload dX11_formula_75 ga71 gs73 gi74 ?_
          refine a_istore dX11_formula_76 (Nat.le_of_ble_eq_true rfl) (lv2 := [(5, .int (M.2.2.1 r69 (x5.toNatClampNeg))), (0, .ref a0), (1, .int x1), (2, .int x2), (3, .int x3), (4, .int x4)]) rfl ?_
          refine a_goto 27 dX11_formula_78 (by decide) ?_
          exact a_lv (lv2 := [(0, .ref a0), (1, .int x1), (2, .int x2), (3, .int x3), (4, .int x4), (5, .int (M.2.2.1 r69 (x5.toNatClampNeg)))]) (fa_cons rfl (fa_cons rfl (fa_cons rfl (fa_cons rfl (fa_cons rfl (fa_cons rfl fa_nil)))))) (hJ _ _ _ h)
        · replace h := ite_t c68 h
          refine a_iload dX11_formula_66 rfl ?_
          exact a_iret dX11_formula_68 rfl (hR _ _ h)
set_option maxHeartbeats 4000000 in
set_option maxRecDepth 100000 in
noncomputable def st_X11_formula (n : Nat) (s : Sg) : Option (Sg ⊕ (Int32 × Mem)) := if s.1 = 0 then vR s.2.1 none (fun a0 t => vI t none (fun x1 t => vI t none (fun x2 t => vI t none (fun x3 t => vE t none (T_X11_formula_0 (fun c l M => some (.inl (c, l, M))) (fun v M => some (.inr (v, M))) none n a0 x1 x2 x3 s.2.2))))) else if s.1 = 27 then vR s.2.1 none (fun a0 t => vI t none (fun x1 t => vI t none (fun x2 t => vI t none (fun x3 t => vI t none (fun x4 t => vI t none (fun x5 t => vE t none (T_X11_formula_27 (fun c l M => some (.inl (c, l, M))) (fun v M => some (.inr (v, M))) none n a0 x1 x2 x3 x4 x5 s.2.2))))))) else none
noncomputable abbrev g_X11_formula_0 (n : Nat) (a0 : Nat) (x1 : Int32) (x2 : Int32) (x3 : Int32) (M : Mem) : Option (Int32 × Mem) := lp (st_X11_formula n) (0, [.ref a0, .int x1, .int x2, .int x3], M)
set_option maxHeartbeats 4000000 in
set_option maxRecDepth 100000 in
theorem ge_X11_formula_0 (n : Nat) (a0 : Nat) (x1 : Int32) (x2 : Int32) (x3 : Int32) (M : Mem) : g_X11_formula_0 n a0 x1 x2 x3 M = T_X11_formula_0 (fun c l M => lp (st_X11_formula n) (c, l, M)) (fun v M => some (v, M)) none n a0 x1 x2 x3 M := (lp_eq _ _).trans (n_X11_formula_0 (lpK (st_X11_formula n)) (fun c l M => some (.inl (c, l, M))) (fun v M => some (.inr (v, M))) none n a0 x1 x2 x3 M)
noncomputable abbrev g_X11_formula_27 (n : Nat) (a0 : Nat) (x1 : Int32) (x2 : Int32) (x3 : Int32) (x4 : Int32) (x5 : Int32) (M : Mem) : Option (Int32 × Mem) := lp (st_X11_formula n) (27, [.ref a0, .int x1, .int x2, .int x3, .int x4, .int x5], M)
set_option maxHeartbeats 4000000 in
set_option maxRecDepth 100000 in
theorem ge_X11_formula_27 (n : Nat) (a0 : Nat) (x1 : Int32) (x2 : Int32) (x3 : Int32) (x4 : Int32) (x5 : Int32) (M : Mem) : g_X11_formula_27 n a0 x1 x2 x3 x4 x5 M = T_X11_formula_27 (fun c l M => lp (st_X11_formula n) (c, l, M)) (fun v M => some (v, M)) none n a0 x1 x2 x3 x4 x5 M := (lp_eq _ _).trans (n_X11_formula_27 (lpK (st_X11_formula n)) (fun c l M => some (.inl (c, l, M))) (fun v M => some (.inr (v, M))) none n a0 x1 x2 x3 x4 x5 M)
noncomputable def b_X11_formula (n : Nat) (a0 : Nat) (x1 : Int32) (x2 : Int32) (x3 : Int32) (M : Mem) : Option (Int32 × Mem) := g_X11_formula_0 n a0 x1 x2 x3 M
set_option maxHeartbeats 4000000 in
set_option maxRecDepth 100000 in
theorem sb_X11_formula {X : Nat × (Nat → Int32)} {al : Bool} {n : Nat} {a0 : Nat} {x1 : Int32} {x2 : Int32} {x3 : Int32} {M : Mem} {v : Int32} {M1 : Mem} (h : b_X11_formula n a0 x1 x2 x3 M = some (v, M1)) : AE yX11_formula cX11_formula 6 (some .int) al n X [.ref a0, .int x1, .int x2, .int x3] M (some (.int v)) M1 := by
  refine AM.of false (by decide +kernel) (by intro h; cases h) (Nat.le_of_ble_eq_true rfl) ?_
  refine lp_snd (P := fun s r => PW_X11_formula X al n (fun v M2 => v = (some (.int r.1)) ∧ M2 = r.2) s.1 s.2.1 s.2.2) ?_ h
  clear h
  rintro ⟨c, l, M⟩ r h
  unfold st_X11_formula at h
  rcases ite_p h with ⟨e, h⟩ | ⟨e, h⟩
  · replace e : c = 0 := e
    subst e
    obtain ⟨a0, tt0, e, h⟩ := vR_p id h
    replace e : l = _ := e
    subst e
    obtain ⟨x1, tt1, e, h⟩ := vI_p id h
    replace e : tt0 = _ := e
    subst e
    obtain ⟨x2, tt2, e, h⟩ := vI_p id h
    replace e : tt1 = _ := e
    subst e
    obtain ⟨x3, tt3, e, h⟩ := vI_p id h
    replace e : tt2 = _ := e
    subst e
    obtain ⟨e, h⟩ := vE_p id h
    replace e : tt3 = [] := e
    subst e
    exact w_X11_formula_0 (J := fun c l M => PW_X11_formula X al n (fun v M2 => v = (some (.int r.1)) ∧ M2 = r.2) c l M) (R := fun v M => (v, M) = r) (fun _ _ _ h => h) (fun v M h => by cases h; exact ⟨rfl, rfl⟩) ((n_X11_formula_0 (lpP (fun (s : Sg) (r : Int32 × Mem) => PW_X11_formula X al n (fun v M2 => v = (some (.int r.1)) ∧ M2 = r.2) s.1 s.2.1 s.2.2) r) (fun c l M => some (.inl (c, l, M))) (fun v M => some (.inr (v, M))) none n a0 x1 x2 x3 M).mp h)
  rcases ite_p h with ⟨e, h⟩ | ⟨e, h⟩
  · replace e : c = 27 := e
    subst e
    obtain ⟨a0, tt0, e, h⟩ := vR_p id h
    replace e : l = _ := e
    subst e
    obtain ⟨x1, tt1, e, h⟩ := vI_p id h
    replace e : tt0 = _ := e
    subst e
    obtain ⟨x2, tt2, e, h⟩ := vI_p id h
    replace e : tt1 = _ := e
    subst e
    obtain ⟨x3, tt3, e, h⟩ := vI_p id h
    replace e : tt2 = _ := e
    subst e
    obtain ⟨x4, tt4, e, h⟩ := vI_p id h
    replace e : tt3 = _ := e
    subst e
    obtain ⟨x5, tt5, e, h⟩ := vI_p id h
    replace e : tt4 = _ := e
    subst e
    obtain ⟨e, h⟩ := vE_p id h
    replace e : tt5 = [] := e
    subst e
    exact w_X11_formula_27 (J := fun c l M => PW_X11_formula X al n (fun v M2 => v = (some (.int r.1)) ∧ M2 = r.2) c l M) (R := fun v M => (v, M) = r) (fun _ _ _ h => h) (fun v M h => by cases h; exact ⟨rfl, rfl⟩) ((n_X11_formula_27 (lpP (fun (s : Sg) (r : Int32 × Mem) => PW_X11_formula X al n (fun v M2 => v = (some (.int r.1)) ∧ M2 = r.2) s.1 s.2.1 s.2.2) r) (fun c l M => some (.inl (c, l, M))) (fun v M => some (.inr (v, M))) none n a0 x1 x2 x3 x4 x5 M).mp h)
  · exact h.elim

noncomputable abbrev f_X11_formula := b_X11_formula
theorem s_X11_formula {X : Nat × (Nat → Int32)} {al : Bool} {n : Nat} {a0 : Nat} {x1 : Int32} {x2 : Int32} {x3 : Int32} {M : Mem} {v : Int32} {M1 : Mem} (h : f_X11_formula n a0 x1 x2 x3 M = some (v, M1)) : AE yX11_formula cX11_formula 6 (some .int) al n X [.ref a0, .int x1, .int x2, .int x3] M (some (.int v)) M1 := sb_X11_formula h
