/-! METHODS AS FUNCTIONS, written by wip/gen/shallow.py -/
set_option maxHeartbeats 4000000 in
set_option maxRecDepth 100000 in
noncomputable def T_X11_nodesOf_0.{u} {α : Sort u} (R : Int32 → Mem → α) (N : α) (n : Nat) (a0 : Nat) (x1 : Int32) (M : Mem) : α := gd (fO M a0 11) N (bnd2 (cal n (fun n => f_X11_behind n a0 x1 M)) N (fun v3 M4 => R (v3 - x1) M4))
set_option maxHeartbeats 4000000 in
set_option maxRecDepth 100000 in
theorem n_X11_nodesOf_0.{u, v} {α : Sort u} {β : Sort v} (h : α → β) (R : Int32 → Mem → α) (N : α) (n : Nat) (a0 : Nat) (x1 : Int32) (M : Mem) : h (T_X11_nodesOf_0 R N n a0 x1 M) = T_X11_nodesOf_0 (fun v M => h (R v M)) (h N) n a0 x1 M := by
  simp only [T_X11_nodesOf_0, nat_ite h, nat_gd h, nat_bnd h, nat_bnd2 h]
set_option maxHeartbeats 4000000 in
set_option maxRecDepth 100000 in
theorem w_X11_nodesOf_0 {X : Nat × (Nat → Int32)} {al : Bool} {n : Nat} {Q : Option Value → Mem → Prop} {R : Int32 → Mem → Prop} (hR : ∀ v M, R v M → Q (some (.int v)) M) {a0 : Nat} {x1 : Int32} {M : Mem} (h : T_X11_nodesOf_0 R False n a0 x1 M) : AW X (RX11, cX11_nodesOf, 2, (some .int), false, al, n) 0 0 0 [(0, .ref a0), (1, .int x1)] [] M Q := by
  unfold T_X11_nodesOf_0 at h
  refine a_aload_n dX11_nodesOf_0 rfl rfl ?_
  refine a_iload_n dX11_nodesOf_1 rfl rfl ?_
  obtain ⟨⟨ga1, gs2⟩, h⟩ := gd_t h
  obtain ⟨v3, M4, e5, h⟩ := bnd2_t h
  obtain ⟨n6, en7, e5⟩ := cal_t e5
  refine e_callV (As := [.int x1]) (st := []) (a := a0) (ci := 11) false dX11_nodesOf_2 mw_X11_behind (Or.inl ⟨rfl, ml_X11_309⟩) im_X11_behind se_X11_behind (by decide) ga1 gs2 rfl (Nat.le_of_ble_eq_true rfl) en7 (s_X11_behind e5) ?_
  refine a_iload_n dX11_nodesOf_5 rfl rfl ?_
  refine a_isub dX11_nodesOf_6 ?_
  exact a_iret dX11_nodesOf_7 rfl (hR _ _ h)
noncomputable def b_X11_nodesOf (n : Nat) (a0 : Nat) (x1 : Int32) (M : Mem) : Option (Int32 × Mem) := T_X11_nodesOf_0 (fun v M => some (v, M)) none n a0 x1 M
set_option maxHeartbeats 4000000 in
set_option maxRecDepth 100000 in
theorem sb_X11_nodesOf {X : Nat × (Nat → Int32)} {al : Bool} {n : Nat} {a0 : Nat} {x1 : Int32} {M : Mem} {v : Int32} {M1 : Mem} (h : b_X11_nodesOf n a0 x1 M = some (v, M1)) : AE yX11_nodesOf cX11_nodesOf 2 (some .int) al n X [.ref a0, .int x1] M (some (.int v)) M1 := by
  refine AM.of false (by decide +kernel) (by intro h; cases h) (Nat.le_of_ble_eq_true rfl) ?_
  have h2 : T_X11_nodesOf_0 (fun v2 M2 => some (v2, M2) = some (v, M1)) (none = some (v, M1)) n a0 x1 M := (n_X11_nodesOf_0 (fun o => o = some (v, M1)) (fun v M => some (v, M)) none n a0 x1 M).mp h
  have h3 : ((none : Option (Int32 × Mem)) = some (v, M1)) = False := eq_false (by intro q; cases q)
  rw [h3] at h2
  exact w_X11_nodesOf_0 (fun v2 M2 h => by cases h; exact ⟨rfl, rfl⟩) h2

noncomputable abbrev f_X11_nodesOf := b_X11_nodesOf
theorem s_X11_nodesOf {X : Nat × (Nat → Int32)} {al : Bool} {n : Nat} {a0 : Nat} {x1 : Int32} {M : Mem} {v : Int32} {M1 : Mem} (h : f_X11_nodesOf n a0 x1 M = some (v, M1)) : AE yX11_nodesOf cX11_nodesOf 2 (some .int) al n X [.ref a0, .int x1] M (some (.int v)) M1 := sb_X11_nodesOf h
def ix_X11_inner (c : Nat) : List Nat := if c = 0 then [0, 1, 2] else if c = 7 then [0, 2, 3, 4] else []
def PW_X11_inner (X : Nat × (Nat → Int32)) (al : Bool) (n : Nat) (Q : Option Value → Mem → Prop) (c : Nat) (l : List Value) (M : Mem) : Prop := AW X (RX11, cX11_inner, 5, (some .int), false, al, n) 0 0 c (List.zip (ix_X11_inner c) l) (l.drop (ix_X11_inner c).length) M Q
set_option maxHeartbeats 4000000 in
set_option maxRecDepth 100000 in
noncomputable def T_X11_inner_0.{u} {α : Sort u} (J : Nat → List Value → Mem → α) (R : Int32 → Mem → α) (N : α) (n : Nat) (a0 : Nat) (x1 : Int32) (x2 : Int32) (M : Mem) : α := J 7 [.ref a0, .int x2, .int (x1 + 1), .int 0] M
set_option maxHeartbeats 4000000 in
set_option maxRecDepth 100000 in
theorem n_X11_inner_0.{u, v} {α : Sort u} {β : Sort v} (h : α → β) (J : Nat → List Value → Mem → α) (R : Int32 → Mem → α) (N : α) (n : Nat) (a0 : Nat) (x1 : Int32) (x2 : Int32) (M : Mem) : h (T_X11_inner_0 J R N n a0 x1 x2 M) = T_X11_inner_0 (fun c l M => h (J c l M)) (fun v M => h (R v M)) (h N) n a0 x1 x2 M := by
  simp only [T_X11_inner_0, nat_ite h, nat_gd h, nat_bnd h, nat_bnd2 h]
set_option maxHeartbeats 4000000 in
set_option maxRecDepth 100000 in
theorem w_X11_inner_0 {X : Nat × (Nat → Int32)} {al : Bool} {n : Nat} {Q : Option Value → Mem → Prop} {J : Nat → List Value → Mem → Prop} (hJ : ∀ c l M, J c l M → PW_X11_inner X al n Q c l M) {R : Int32 → Mem → Prop} (hR : ∀ v M, R v M → Q (some (.int v)) M) {a0 : Nat} {x1 : Int32} {x2 : Int32} {M : Mem} (h : T_X11_inner_0 J R False n a0 x1 x2 M) : AW X (RX11, cX11_inner, 5, (some .int), false, al, n) 0 0 0 [(0, .ref a0), (1, .int x1), (2, .int x2)] [] M Q := by
  unfold T_X11_inner_0 at h
  refine a_iload_n dX11_inner_0 rfl rfl ?_
  refine a_iconst (v := 1) dX11_inner_1 (by decide) ?_
  refine a_iadd dX11_inner_2 ?_
  refine a_istore_n dX11_inner_3 rfl (Nat.le_of_ble_eq_true rfl) (lv2 := [(3, .int (x1 + 1)), (0, .ref a0), (1, .int x1), (2, .int x2)]) rfl ?_
  refine a_iconst (v := 0) dX11_inner_4 (by decide) ?_
  refine a_istore dX11_inner_5 (Nat.le_of_ble_eq_true rfl) (lv2 := [(4, .int 0), (3, .int (x1 + 1)), (0, .ref a0), (1, .int x1), (2, .int x2)]) rfl ?_
  exact a_lv (lv2 := [(0, .ref a0), (2, .int x2), (3, .int (x1 + 1)), (4, .int 0)]) (fa_cons rfl (fa_cons rfl (fa_cons rfl (fa_cons rfl fa_nil)))) (hJ _ _ _ h)
set_option maxHeartbeats 4000000 in
set_option maxRecDepth 100000 in
noncomputable def T_X11_inner_7.{u} {α : Sort u} (J : Nat → List Value → Mem → α) (R : Int32 → Mem → α) (N : α) (n : Nat) (a0 : Nat) (x2 : Int32) (x3 : Int32) (x4 : Int32) (M : Mem) : α := if x2 ≤ x4 then R x3 M else gd (fO M a0 11) N (bnd2 (cal n (fun n => f_X11_behind n a0 x3 M)) N (fun v4 M5 => J 7 [.ref a0, .int x2, .int v4, .int (x4 + 1)] M5))
set_option maxHeartbeats 4000000 in
set_option maxRecDepth 100000 in
theorem n_X11_inner_7.{u, v} {α : Sort u} {β : Sort v} (h : α → β) (J : Nat → List Value → Mem → α) (R : Int32 → Mem → α) (N : α) (n : Nat) (a0 : Nat) (x2 : Int32) (x3 : Int32) (x4 : Int32) (M : Mem) : h (T_X11_inner_7 J R N n a0 x2 x3 x4 M) = T_X11_inner_7 (fun c l M => h (J c l M)) (fun v M => h (R v M)) (h N) n a0 x2 x3 x4 M := by
  simp only [T_X11_inner_7, nat_ite h, nat_gd h, nat_bnd h, nat_bnd2 h]
set_option maxHeartbeats 4000000 in
set_option maxRecDepth 100000 in
theorem w_X11_inner_7 {X : Nat × (Nat → Int32)} {al : Bool} {n : Nat} {Q : Option Value → Mem → Prop} {J : Nat → List Value → Mem → Prop} (hJ : ∀ c l M, J c l M → PW_X11_inner X al n Q c l M) {R : Int32 → Mem → Prop} (hR : ∀ v M, R v M → Q (some (.int v)) M) {a0 : Nat} {x2 : Int32} {x3 : Int32} {x4 : Int32} {M : Mem} (h : T_X11_inner_7 J R False n a0 x2 x3 x4 M) : AW X (RX11, cX11_inner, 5, (some .int), false, al, n) 0 0 7 [(0, .ref a0), (2, .int x2), (3, .int x3), (4, .int x4)] [] M Q := by
  unfold T_X11_inner_7 at h
  refine a_iload dX11_inner_7 rfl ?_
  refine a_iload_n dX11_inner_9 rfl rfl ?_
  refine a_icmp_ge 25 dX11_inner_10 (by decide) (fun c1 => ?_) (fun c1 => ?_)
  · replace h := ite_t c1 h
    refine a_iload_n dX11_inner_25 rfl rfl ?_
    exact a_iret dX11_inner_26 rfl (hR _ _ h)
  · replace h := ite_f c1 h
    refine a_aload_n dX11_inner_13 rfl rfl ?_
    refine a_iload_n dX11_inner_14 rfl rfl ?_
    obtain ⟨⟨ga2, gs3⟩, h⟩ := gd_t h
    obtain ⟨v4, M5, e6, h⟩ := bnd2_t h
    obtain ⟨n7, en8, e6⟩ := cal_t e6
    refine e_callV (As := [.int x3]) (st := []) (a := a0) (ci := 11) false dX11_inner_15 mw_X11_behind (Or.inl ⟨rfl, ml_X11_309⟩) im_X11_behind se_X11_behind (by decide) ga2 gs3 rfl (Nat.le_of_ble_eq_true rfl) en8 (s_X11_behind e6) ?_
    refine a_istore_n dX11_inner_18 rfl (Nat.le_of_ble_eq_true rfl) (lv2 := [(3, .int v4), (0, .ref a0), (2, .int x2), (4, .int x4)]) rfl ?_
    refine a_iinc (v := (x4 + 1)) dX11_inner_19 rfl (by first | rfl | decide) (Nat.le_of_ble_eq_true rfl) (lv2 := [(4, .int (x4 + 1)), (3, .int v4), (0, .ref a0), (2, .int x2)]) rfl ?_
    refine a_goto 7 dX11_inner_22 (by decide) ?_
    exact a_lv (lv2 := [(0, .ref a0), (2, .int x2), (3, .int v4), (4, .int (x4 + 1))]) (fa_cons rfl (fa_cons rfl (fa_cons rfl (fa_cons rfl fa_nil)))) (hJ _ _ _ h)
set_option maxHeartbeats 4000000 in
set_option maxRecDepth 100000 in
noncomputable def st_X11_inner (n : Nat) (s : Sg) : Option (Sg ⊕ (Int32 × Mem)) := if s.1 = 0 then vR s.2.1 none (fun a0 t => vI t none (fun x1 t => vI t none (fun x2 t => vE t none (T_X11_inner_0 (fun c l M => some (.inl (c, l, M))) (fun v M => some (.inr (v, M))) none n a0 x1 x2 s.2.2)))) else if s.1 = 7 then vR s.2.1 none (fun a0 t => vI t none (fun x2 t => vI t none (fun x3 t => vI t none (fun x4 t => vE t none (T_X11_inner_7 (fun c l M => some (.inl (c, l, M))) (fun v M => some (.inr (v, M))) none n a0 x2 x3 x4 s.2.2))))) else none
noncomputable abbrev g_X11_inner_0 (n : Nat) (a0 : Nat) (x1 : Int32) (x2 : Int32) (M : Mem) : Option (Int32 × Mem) := lp (st_X11_inner n) (0, [.ref a0, .int x1, .int x2], M)
set_option maxHeartbeats 4000000 in
set_option maxRecDepth 100000 in
theorem ge_X11_inner_0 (n : Nat) (a0 : Nat) (x1 : Int32) (x2 : Int32) (M : Mem) : g_X11_inner_0 n a0 x1 x2 M = T_X11_inner_0 (fun c l M => lp (st_X11_inner n) (c, l, M)) (fun v M => some (v, M)) none n a0 x1 x2 M := (lp_eq _ _).trans (n_X11_inner_0 (lpK (st_X11_inner n)) (fun c l M => some (.inl (c, l, M))) (fun v M => some (.inr (v, M))) none n a0 x1 x2 M)
noncomputable abbrev g_X11_inner_7 (n : Nat) (a0 : Nat) (x2 : Int32) (x3 : Int32) (x4 : Int32) (M : Mem) : Option (Int32 × Mem) := lp (st_X11_inner n) (7, [.ref a0, .int x2, .int x3, .int x4], M)
set_option maxHeartbeats 4000000 in
set_option maxRecDepth 100000 in
theorem ge_X11_inner_7 (n : Nat) (a0 : Nat) (x2 : Int32) (x3 : Int32) (x4 : Int32) (M : Mem) : g_X11_inner_7 n a0 x2 x3 x4 M = T_X11_inner_7 (fun c l M => lp (st_X11_inner n) (c, l, M)) (fun v M => some (v, M)) none n a0 x2 x3 x4 M := (lp_eq _ _).trans (n_X11_inner_7 (lpK (st_X11_inner n)) (fun c l M => some (.inl (c, l, M))) (fun v M => some (.inr (v, M))) none n a0 x2 x3 x4 M)
noncomputable def b_X11_inner (n : Nat) (a0 : Nat) (x1 : Int32) (x2 : Int32) (M : Mem) : Option (Int32 × Mem) := g_X11_inner_0 n a0 x1 x2 M
set_option maxHeartbeats 4000000 in
set_option maxRecDepth 100000 in
theorem sb_X11_inner {X : Nat × (Nat → Int32)} {al : Bool} {n : Nat} {a0 : Nat} {x1 : Int32} {x2 : Int32} {M : Mem} {v : Int32} {M1 : Mem} (h : b_X11_inner n a0 x1 x2 M = some (v, M1)) : AE yX11_inner cX11_inner 5 (some .int) al n X [.ref a0, .int x1, .int x2] M (some (.int v)) M1 := by
  refine AM.of false (by decide +kernel) (by intro h; cases h) (Nat.le_of_ble_eq_true rfl) ?_
  refine lp_snd (P := fun s r => PW_X11_inner X al n (fun v M2 => v = (some (.int r.1)) ∧ M2 = r.2) s.1 s.2.1 s.2.2) ?_ h
  clear h
  rintro ⟨c, l, M⟩ r h
  unfold st_X11_inner at h
  rcases ite_p h with ⟨e, h⟩ | ⟨e, h⟩
  · replace e : c = 0 := e
    subst e
    obtain ⟨a0, tt0, e, h⟩ := vR_p id h
    replace e : l = _ := e
    subst e
    obtain ⟨x1, tt1, e, h⟩ := vI_p id h
    replace e : tt0 = _ := e
    subst e
    obtain ⟨x2, tt2, e, h⟩ := vI_p id h
    replace e : tt1 = _ := e
    subst e
    obtain ⟨e, h⟩ := vE_p id h
    replace e : tt2 = [] := e
    subst e
    exact w_X11_inner_0 (J := fun c l M => PW_X11_inner X al n (fun v M2 => v = (some (.int r.1)) ∧ M2 = r.2) c l M) (R := fun v M => (v, M) = r) (fun _ _ _ h => h) (fun v M h => by cases h; exact ⟨rfl, rfl⟩) ((n_X11_inner_0 (lpP (fun (s : Sg) (r : Int32 × Mem) => PW_X11_inner X al n (fun v M2 => v = (some (.int r.1)) ∧ M2 = r.2) s.1 s.2.1 s.2.2) r) (fun c l M => some (.inl (c, l, M))) (fun v M => some (.inr (v, M))) none n a0 x1 x2 M).mp h)
  rcases ite_p h with ⟨e, h⟩ | ⟨e, h⟩
  · replace e : c = 7 := e
    subst e
    obtain ⟨a0, tt0, e, h⟩ := vR_p id h
    replace e : l = _ := e
    subst e
    obtain ⟨x2, tt1, e, h⟩ := vI_p id h
    replace e : tt0 = _ := e
    subst e
    obtain ⟨x3, tt2, e, h⟩ := vI_p id h
    replace e : tt1 = _ := e
    subst e
    obtain ⟨x4, tt3, e, h⟩ := vI_p id h
    replace e : tt2 = _ := e
    subst e
    obtain ⟨e, h⟩ := vE_p id h
    replace e : tt3 = [] := e
    subst e
    exact w_X11_inner_7 (J := fun c l M => PW_X11_inner X al n (fun v M2 => v = (some (.int r.1)) ∧ M2 = r.2) c l M) (R := fun v M => (v, M) = r) (fun _ _ _ h => h) (fun v M h => by cases h; exact ⟨rfl, rfl⟩) ((n_X11_inner_7 (lpP (fun (s : Sg) (r : Int32 × Mem) => PW_X11_inner X al n (fun v M2 => v = (some (.int r.1)) ∧ M2 = r.2) s.1 s.2.1 s.2.2) r) (fun c l M => some (.inl (c, l, M))) (fun v M => some (.inr (v, M))) none n a0 x2 x3 x4 M).mp h)
  · exact h.elim

noncomputable abbrev f_X11_inner := b_X11_inner
theorem s_X11_inner {X : Nat × (Nat → Int32)} {al : Bool} {n : Nat} {a0 : Nat} {x1 : Int32} {x2 : Int32} {M : Mem} {v : Int32} {M1 : Mem} (h : f_X11_inner n a0 x1 x2 M = some (v, M1)) : AE yX11_inner cX11_inner 5 (some .int) al n X [.ref a0, .int x1, .int x2] M (some (.int v)) M1 := sb_X11_inner h
def ix_X11_timesIn (c : Nat) : List Nat := if c = 0 then [0, 1, 2] else if c = 12 then [0, 2, 3, 4, 5] else []
def PW_X11_timesIn (X : Nat × (Nat → Int32)) (al : Bool) (n : Nat) (Q : Option Value → Mem → Prop) (c : Nat) (l : List Value) (M : Mem) : Prop := AW X (RX11, cX11_timesIn, 6, (some .int), false, al, n) 0 0 c (List.zip (ix_X11_timesIn c) l) (l.drop (ix_X11_timesIn c).length) M Q
set_option maxHeartbeats 4000000 in
set_option maxRecDepth 100000 in
noncomputable def T_X11_timesIn_0.{u} {α : Sort u} (J : Nat → List Value → Mem → α) (R : Int32 → Mem → α) (N : α) (n : Nat) (a0 : Nat) (x1 : Int32) (x2 : Int32) (M : Mem) : α := gd (fO M a0 11) N (bnd2 (cal n (fun n => f_X11_behind n a0 x1 M)) N (fun v3 M4 => J 12 [.ref a0, .int x2, .int 0, .int v3, .int x1] M4))
set_option maxHeartbeats 4000000 in
set_option maxRecDepth 100000 in
theorem n_X11_timesIn_0.{u, v} {α : Sort u} {β : Sort v} (h : α → β) (J : Nat → List Value → Mem → α) (R : Int32 → Mem → α) (N : α) (n : Nat) (a0 : Nat) (x1 : Int32) (x2 : Int32) (M : Mem) : h (T_X11_timesIn_0 J R N n a0 x1 x2 M) = T_X11_timesIn_0 (fun c l M => h (J c l M)) (fun v M => h (R v M)) (h N) n a0 x1 x2 M := by
  simp only [T_X11_timesIn_0, nat_ite h, nat_gd h, nat_bnd h, nat_bnd2 h]
set_option maxHeartbeats 4000000 in
set_option maxRecDepth 100000 in
theorem w_X11_timesIn_0 {X : Nat × (Nat → Int32)} {al : Bool} {n : Nat} {Q : Option Value → Mem → Prop} {J : Nat → List Value → Mem → Prop} (hJ : ∀ c l M, J c l M → PW_X11_timesIn X al n Q c l M) {R : Int32 → Mem → Prop} (hR : ∀ v M, R v M → Q (some (.int v)) M) {a0 : Nat} {x1 : Int32} {x2 : Int32} {M : Mem} (h : T_X11_timesIn_0 J R False n a0 x1 x2 M) : AW X (RX11, cX11_timesIn, 6, (some .int), false, al, n) 0 0 0 [(0, .ref a0), (1, .int x1), (2, .int x2)] [] M Q := by
  unfold T_X11_timesIn_0 at h
  refine a_iconst (v := 0) dX11_timesIn_0 (by decide) ?_
  refine a_istore_n dX11_timesIn_1 rfl (Nat.le_of_ble_eq_true rfl) (lv2 := [(3, .int 0), (0, .ref a0), (1, .int x1), (2, .int x2)]) rfl ?_
  refine a_aload_n dX11_timesIn_2 rfl rfl ?_
  refine a_iload_n dX11_timesIn_3 rfl rfl ?_
  obtain ⟨⟨ga1, gs2⟩, h⟩ := gd_t h
  obtain ⟨v3, M4, e5, h⟩ := bnd2_t h
  obtain ⟨n6, en7, e5⟩ := cal_t e5
  refine e_callV (As := [.int x1]) (st := []) (a := a0) (ci := 11) false dX11_timesIn_4 mw_X11_behind (Or.inl ⟨rfl, ml_X11_309⟩) im_X11_behind se_X11_behind (by decide) ga1 gs2 rfl (Nat.le_of_ble_eq_true rfl) en7 (s_X11_behind e5) ?_
  refine a_istore dX11_timesIn_7 (Nat.le_of_ble_eq_true rfl) (lv2 := [(4, .int v3), (3, .int 0), (0, .ref a0), (1, .int x1), (2, .int x2)]) rfl ?_
  refine a_iload_n dX11_timesIn_9 rfl rfl ?_
  refine a_istore dX11_timesIn_10 (Nat.le_of_ble_eq_true rfl) (lv2 := [(5, .int x1), (4, .int v3), (3, .int 0), (0, .ref a0), (1, .int x1), (2, .int x2)]) rfl ?_
  exact a_lv (lv2 := [(0, .ref a0), (2, .int x2), (3, .int 0), (4, .int v3), (5, .int x1)]) (fa_cons rfl (fa_cons rfl (fa_cons rfl (fa_cons rfl (fa_cons rfl fa_nil))))) (hJ _ _ _ h)
set_option maxHeartbeats 4000000 in
set_option maxRecDepth 100000 in
noncomputable def T_X11_timesIn_12.{u} {α : Sort u} (J : Nat → List Value → Mem → α) (R : Int32 → Mem → α) (N : α) (n : Nat) (a0 : Nat) (x2 : Int32) (x3 : Int32) (x4 : Int32) (x5 : Int32) (M : Mem) : α := if x4 ≤ x5 then R x3 M else gd (fO M a0 11) N (bnd (M.2.2.2.2 a0 20) N (fun r4 => gd (fA M r4 1 x5) N (if (M.2.2.1 r4 (x5.toNatClampNeg)) = 0 then bnd (M.2.2.2.2 a0 21) N (fun r11 => gd (fA M r11 1 x5) N (if (M.2.2.1 r11 (x5.toNatClampNeg)) = x2 then J 12 [.ref a0, .int x2, .int (x3 + 1), .int x4, .int (x5 + 1)] M else J 12 [.ref a0, .int x2, .int (x3 + 0), .int x4, .int (x5 + 1)] M)) else J 12 [.ref a0, .int x2, .int (x3 + 0), .int x4, .int (x5 + 1)] M)))
set_option maxHeartbeats 4000000 in
set_option maxRecDepth 100000 in
theorem n_X11_timesIn_12.{u, v} {α : Sort u} {β : Sort v} (h : α → β) (J : Nat → List Value → Mem → α) (R : Int32 → Mem → α) (N : α) (n : Nat) (a0 : Nat) (x2 : Int32) (x3 : Int32) (x4 : Int32) (x5 : Int32) (M : Mem) : h (T_X11_timesIn_12 J R N n a0 x2 x3 x4 x5 M) = T_X11_timesIn_12 (fun c l M => h (J c l M)) (fun v M => h (R v M)) (h N) n a0 x2 x3 x4 x5 M := by
  simp only [T_X11_timesIn_12, nat_ite h, nat_gd h, nat_bnd h, nat_bnd2 h]
set_option maxHeartbeats 4000000 in
set_option maxRecDepth 100000 in
theorem w_X11_timesIn_12 {X : Nat × (Nat → Int32)} {al : Bool} {n : Nat} {Q : Option Value → Mem → Prop} {J : Nat → List Value → Mem → Prop} (hJ : ∀ c l M, J c l M → PW_X11_timesIn X al n Q c l M) {R : Int32 → Mem → Prop} (hR : ∀ v M, R v M → Q (some (.int v)) M) {a0 : Nat} {x2 : Int32} {x3 : Int32} {x4 : Int32} {x5 : Int32} {M : Mem} (h : T_X11_timesIn_12 J R False n a0 x2 x3 x4 x5 M) : AW X (RX11, cX11_timesIn, 6, (some .int), false, al, n) 0 0 12 [(0, .ref a0), (2, .int x2), (3, .int x3), (4, .int x4), (5, .int x5)] [] M Q := by
  unfold T_X11_timesIn_12 at h
  refine a_iload dX11_timesIn_12 rfl ?_
  refine a_iload dX11_timesIn_14 rfl ?_
  refine a_icmp_ge 54 dX11_timesIn_16 (by decide) (fun c1 => ?_) (fun c1 => ?_)
  · replace h := ite_t c1 h
    refine a_iload_n dX11_timesIn_54 rfl rfl ?_
    exact a_iret dX11_timesIn_55 rfl (hR _ _ h)
  · replace h := ite_f c1 h
    refine a_iload_n dX11_timesIn_19 rfl rfl ?_
    refine a_aload_n dX11_timesIn_20 rfl rfl ?_
    obtain ⟨⟨ga2, gs3⟩, h⟩ := gd_t h
    obtain ⟨r4, e5, h⟩ := bnd_t h
    refine a_get (v := .ref r4) dX11_timesIn_21 fl_11_59 ga2 gs3 (gvR e5 rfl) ?_
    refine a_iload dX11_timesIn_24 rfl ?_
    obtain ⟨⟨ga6, gn7, gs8, gi9⟩, h⟩ := gd_t h
    refine a_iaload dX11_timesIn_26 ga6 gs8 gi9 ?_
    refine a_if_ne 45 dX11_timesIn_27 (by decide) (fun c10 => ?_) (fun c10 => ?_)
    · replace h := ite_f c10 h
      refine a_iconst (v := 0) dX11_timesIn_45 (by decide) ?_
      refine a_iadd dX11_timesIn_46 ?_
      refine a_istore_n dX11_timesIn_47 rfl (Nat.le_of_ble_eq_true rfl) (lv2 := [(3, .int (x3 + 0)), (0, .ref a0), (2, .int x2), (4, .int x4), (5, .int x5)]) rfl ?_
      refine a_iinc (v := (x5 + 1)) dX11_timesIn_48 rfl (by first | rfl | decide) (Nat.le_of_ble_eq_true rfl) (lv2 := [(5, .int (x5 + 1)), (3, .int (x3 + 0)), (0, .ref a0), (2, .int x2), (4, .int x4)]) rfl ?_
      refine a_goto 12 dX11_timesIn_51 (by decide) ?_
      exact a_lv (lv2 := [(0, .ref a0), (2, .int x2), (3, .int (x3 + 0)), (4, .int x4), (5, .int (x5 + 1))]) (fa_cons rfl (fa_cons rfl (fa_cons rfl (fa_cons rfl (fa_cons rfl fa_nil))))) (hJ _ _ _ h)
    · replace h := ite_t c10 h
      refine a_aload_n dX11_timesIn_30 rfl rfl ?_
      obtain ⟨r11, e12, h⟩ := bnd_t h
      refine a_get (v := .ref r11) dX11_timesIn_31 fl_11_62 ga2 gs3 (gvR e12 rfl) ?_
      refine a_iload dX11_timesIn_34 rfl ?_
      obtain ⟨⟨ga13, gn14, gs15, gi16⟩, h⟩ := gd_t h
      refine a_iaload dX11_timesIn_36 ga13 gs15 gi16 ?_
      refine a_iload_n dX11_timesIn_37 rfl rfl ?_
      refine a_icmp_ne 45 dX11_timesIn_38 (by decide) (fun c17 => ?_) (fun c17 => ?_)
      · replace h := ite_f c17 h
        refine a_iconst (v := 0) dX11_timesIn_45 (by decide) ?_
        refine a_iadd dX11_timesIn_46 ?_
        refine a_istore_n dX11_timesIn_47 rfl (Nat.le_of_ble_eq_true rfl) (lv2 := [(3, .int (x3 + 0)), (0, .ref a0), (2, .int x2), (4, .int x4), (5, .int x5)]) rfl ?_
        refine a_iinc (v := (x5 + 1)) dX11_timesIn_48 rfl (by first | rfl | decide) (Nat.le_of_ble_eq_true rfl) (lv2 := [(5, .int (x5 + 1)), (3, .int (x3 + 0)), (0, .ref a0), (2, .int x2), (4, .int x4)]) rfl ?_
        refine a_goto 12 dX11_timesIn_51 (by decide) ?_
        exact a_lv (lv2 := [(0, .ref a0), (2, .int x2), (3, .int (x3 + 0)), (4, .int x4), (5, .int (x5 + 1))]) (fa_cons rfl (fa_cons rfl (fa_cons rfl (fa_cons rfl (fa_cons rfl fa_nil))))) (hJ _ _ _ h)
      · replace h := ite_t c17 h
        refine a_iconst (v := 1) dX11_timesIn_41 (by decide) ?_
        refine a_goto 46 dX11_timesIn_42 (by decide) ?_
        refine a_iadd dX11_timesIn_46 ?_
        refine a_istore_n dX11_timesIn_47 rfl (Nat.le_of_ble_eq_true rfl) (lv2 := [(3, .int (x3 + 1)), (0, .ref a0), (2, .int x2), (4, .int x4), (5, .int x5)]) rfl ?_
        refine a_iinc (v := (x5 + 1)) dX11_timesIn_48 rfl (by first | rfl | decide) (Nat.le_of_ble_eq_true rfl) (lv2 := [(5, .int (x5 + 1)), (3, .int (x3 + 1)), (0, .ref a0), (2, .int x2), (4, .int x4)]) rfl ?_
        refine a_goto 12 dX11_timesIn_51 (by decide) ?_
        exact a_lv (lv2 := [(0, .ref a0), (2, .int x2), (3, .int (x3 + 1)), (4, .int x4), (5, .int (x5 + 1))]) (fa_cons rfl (fa_cons rfl (fa_cons rfl (fa_cons rfl (fa_cons rfl fa_nil))))) (hJ _ _ _ h)
set_option maxHeartbeats 4000000 in
set_option maxRecDepth 100000 in
noncomputable def st_X11_timesIn (n : Nat) (s : Sg) : Option (Sg ⊕ (Int32 × Mem)) := if s.1 = 0 then vR s.2.1 none (fun a0 t => vI t none (fun x1 t => vI t none (fun x2 t => vE t none (T_X11_timesIn_0 (fun c l M => some (.inl (c, l, M))) (fun v M => some (.inr (v, M))) none n a0 x1 x2 s.2.2)))) else if s.1 = 12 then vR s.2.1 none (fun a0 t => vI t none (fun x2 t => vI t none (fun x3 t => vI t none (fun x4 t => vI t none (fun x5 t => vE t none (T_X11_timesIn_12 (fun c l M => some (.inl (c, l, M))) (fun v M => some (.inr (v, M))) none n a0 x2 x3 x4 x5 s.2.2)))))) else none
noncomputable abbrev g_X11_timesIn_0 (n : Nat) (a0 : Nat) (x1 : Int32) (x2 : Int32) (M : Mem) : Option (Int32 × Mem) := lp (st_X11_timesIn n) (0, [.ref a0, .int x1, .int x2], M)
set_option maxHeartbeats 4000000 in
set_option maxRecDepth 100000 in
theorem ge_X11_timesIn_0 (n : Nat) (a0 : Nat) (x1 : Int32) (x2 : Int32) (M : Mem) : g_X11_timesIn_0 n a0 x1 x2 M = T_X11_timesIn_0 (fun c l M => lp (st_X11_timesIn n) (c, l, M)) (fun v M => some (v, M)) none n a0 x1 x2 M := (lp_eq _ _).trans (n_X11_timesIn_0 (lpK (st_X11_timesIn n)) (fun c l M => some (.inl (c, l, M))) (fun v M => some (.inr (v, M))) none n a0 x1 x2 M)
noncomputable abbrev g_X11_timesIn_12 (n : Nat) (a0 : Nat) (x2 : Int32) (x3 : Int32) (x4 : Int32) (x5 : Int32) (M : Mem) : Option (Int32 × Mem) := lp (st_X11_timesIn n) (12, [.ref a0, .int x2, .int x3, .int x4, .int x5], M)
set_option maxHeartbeats 4000000 in
set_option maxRecDepth 100000 in
theorem ge_X11_timesIn_12 (n : Nat) (a0 : Nat) (x2 : Int32) (x3 : Int32) (x4 : Int32) (x5 : Int32) (M : Mem) : g_X11_timesIn_12 n a0 x2 x3 x4 x5 M = T_X11_timesIn_12 (fun c l M => lp (st_X11_timesIn n) (c, l, M)) (fun v M => some (v, M)) none n a0 x2 x3 x4 x5 M := (lp_eq _ _).trans (n_X11_timesIn_12 (lpK (st_X11_timesIn n)) (fun c l M => some (.inl (c, l, M))) (fun v M => some (.inr (v, M))) none n a0 x2 x3 x4 x5 M)
noncomputable def b_X11_timesIn (n : Nat) (a0 : Nat) (x1 : Int32) (x2 : Int32) (M : Mem) : Option (Int32 × Mem) := g_X11_timesIn_0 n a0 x1 x2 M
set_option maxHeartbeats 4000000 in
set_option maxRecDepth 100000 in
theorem sb_X11_timesIn {X : Nat × (Nat → Int32)} {al : Bool} {n : Nat} {a0 : Nat} {x1 : Int32} {x2 : Int32} {M : Mem} {v : Int32} {M1 : Mem} (h : b_X11_timesIn n a0 x1 x2 M = some (v, M1)) : AE yX11_timesIn cX11_timesIn 6 (some .int) al n X [.ref a0, .int x1, .int x2] M (some (.int v)) M1 := by
  refine AM.of false (by decide +kernel) (by intro h; cases h) (Nat.le_of_ble_eq_true rfl) ?_
  refine lp_snd (P := fun s r => PW_X11_timesIn X al n (fun v M2 => v = (some (.int r.1)) ∧ M2 = r.2) s.1 s.2.1 s.2.2) ?_ h
  clear h
  rintro ⟨c, l, M⟩ r h
  unfold st_X11_timesIn at h
  rcases ite_p h with ⟨e, h⟩ | ⟨e, h⟩
  · replace e : c = 0 := e
    subst e
    obtain ⟨a0, tt0, e, h⟩ := vR_p id h
    replace e : l = _ := e
    subst e
    obtain ⟨x1, tt1, e, h⟩ := vI_p id h
    replace e : tt0 = _ := e
    subst e
    obtain ⟨x2, tt2, e, h⟩ := vI_p id h
    replace e : tt1 = _ := e
    subst e
    obtain ⟨e, h⟩ := vE_p id h
    replace e : tt2 = [] := e
    subst e
    exact w_X11_timesIn_0 (J := fun c l M => PW_X11_timesIn X al n (fun v M2 => v = (some (.int r.1)) ∧ M2 = r.2) c l M) (R := fun v M => (v, M) = r) (fun _ _ _ h => h) (fun v M h => by cases h; exact ⟨rfl, rfl⟩) ((n_X11_timesIn_0 (lpP (fun (s : Sg) (r : Int32 × Mem) => PW_X11_timesIn X al n (fun v M2 => v = (some (.int r.1)) ∧ M2 = r.2) s.1 s.2.1 s.2.2) r) (fun c l M => some (.inl (c, l, M))) (fun v M => some (.inr (v, M))) none n a0 x1 x2 M).mp h)
  rcases ite_p h with ⟨e, h⟩ | ⟨e, h⟩
  · replace e : c = 12 := e
    subst e
    obtain ⟨a0, tt0, e, h⟩ := vR_p id h
    replace e : l = _ := e
    subst e
    obtain ⟨x2, tt1, e, h⟩ := vI_p id h
    replace e : tt0 = _ := e
    subst e
    obtain ⟨x3, tt2, e, h⟩ := vI_p id h
    replace e : tt1 = _ := e
    subst e
    obtain ⟨x4, tt3, e, h⟩ := vI_p id h
    replace e : tt2 = _ := e
    subst e
    obtain ⟨x5, tt4, e, h⟩ := vI_p id h
    replace e : tt3 = _ := e
    subst e
    obtain ⟨e, h⟩ := vE_p id h
    replace e : tt4 = [] := e
    subst e
    exact w_X11_timesIn_12 (J := fun c l M => PW_X11_timesIn X al n (fun v M2 => v = (some (.int r.1)) ∧ M2 = r.2) c l M) (R := fun v M => (v, M) = r) (fun _ _ _ h => h) (fun v M h => by cases h; exact ⟨rfl, rfl⟩) ((n_X11_timesIn_12 (lpP (fun (s : Sg) (r : Int32 × Mem) => PW_X11_timesIn X al n (fun v M2 => v = (some (.int r.1)) ∧ M2 = r.2) s.1 s.2.1 s.2.2) r) (fun c l M => some (.inl (c, l, M))) (fun v M => some (.inr (v, M))) none n a0 x2 x3 x4 x5 M).mp h)
  · exact h.elim

noncomputable abbrev f_X11_timesIn := b_X11_timesIn
theorem s_X11_timesIn {X : Nat × (Nat → Int32)} {al : Bool} {n : Nat} {a0 : Nat} {x1 : Int32} {x2 : Int32} {M : Mem} {v : Int32} {M1 : Mem} (h : f_X11_timesIn n a0 x1 x2 M = some (v, M1)) : AE yX11_timesIn cX11_timesIn 6 (some .int) al n X [.ref a0, .int x1, .int x2] M (some (.int v)) M1 := sb_X11_timesIn h
set_option maxHeartbeats 4000000 in
set_option maxRecDepth 100000 in
noncomputable def T_X11_withIn_0.{u} {α : Sort u} (R : Int32 → Mem → α) (N : α) (n : Nat) (a0 : Nat) (x1 : Int32) (x2 : Int32) (x3 : Int32) (M : Mem) : α := gd (fO M a0 11) N (bnd2 (cal n (fun n => f_X11_nodesOf n a0 x1 M)) N (fun v3 M4 => gd (fO M4 a0 11) N (bnd2 (cal n (fun n => f_X11_timesIn n a0 x1 x2 M4)) N (fun v10 M11 => gd (fO M11 a0 11) N (bnd2 (cal n (fun n => f_X11_nodesOf n a0 x3 M11)) N (fun v17 M18 => R (v3 + (v10 * (v17 - 1))) M18))))))
set_option maxHeartbeats 4000000 in
set_option maxRecDepth 100000 in
theorem n_X11_withIn_0.{u, v} {α : Sort u} {β : Sort v} (h : α → β) (R : Int32 → Mem → α) (N : α) (n : Nat) (a0 : Nat) (x1 : Int32) (x2 : Int32) (x3 : Int32) (M : Mem) : h (T_X11_withIn_0 R N n a0 x1 x2 x3 M) = T_X11_withIn_0 (fun v M => h (R v M)) (h N) n a0 x1 x2 x3 M := by
  simp only [T_X11_withIn_0, nat_ite h, nat_gd h, nat_bnd h, nat_bnd2 h]
set_option maxHeartbeats 4000000 in
set_option maxRecDepth 100000 in
theorem w_X11_withIn_0 {X : Nat × (Nat → Int32)} {al : Bool} {n : Nat} {Q : Option Value → Mem → Prop} {R : Int32 → Mem → Prop} (hR : ∀ v M, R v M → Q (some (.int v)) M) {a0 : Nat} {x1 : Int32} {x2 : Int32} {x3 : Int32} {M : Mem} (h : T_X11_withIn_0 R False n a0 x1 x2 x3 M) : AW X (RX11, cX11_withIn, 4, (some .int), false, al, n) 0 0 0 [(0, .ref a0), (1, .int x1), (2, .int x2), (3, .int x3)] [] M Q := by
  unfold T_X11_withIn_0 at h
  refine a_aload_n dX11_withIn_0 rfl rfl ?_
  refine a_iload_n dX11_withIn_1 rfl rfl ?_
  obtain ⟨⟨ga1, gs2⟩, h⟩ := gd_t h
  obtain ⟨v3, M4, e5, h⟩ := bnd2_t h
  obtain ⟨n6, en7, e5⟩ := cal_t e5
  refine e_callV (As := [.int x1]) (st := []) (a := a0) (ci := 11) false dX11_withIn_2 mw_X11_nodesOf (Or.inl ⟨rfl, ml_X11_316⟩) im_X11_nodesOf se_X11_nodesOf (by decide) ga1 gs2 rfl (Nat.le_of_ble_eq_true rfl) en7 (s_X11_nodesOf e5) ?_
  refine a_aload_n dX11_withIn_5 rfl rfl ?_
  refine a_iload_n dX11_withIn_6 rfl rfl ?_
  refine a_iload_n dX11_withIn_7 rfl rfl ?_
  obtain ⟨⟨ga8, gs9⟩, h⟩ := gd_t h
  obtain ⟨v10, M11, e12, h⟩ := bnd2_t h
  obtain ⟨n13, en14, e12⟩ := cal_t e12
  refine e_callV (As := [.int x1, .int x2]) (st := [.int v3]) (a := a0) (ci := 11) false dX11_withIn_8 mw_X11_timesIn (Or.inl ⟨rfl, ml_X11_325⟩) im_X11_timesIn se_X11_timesIn (by decide) ga8 gs9 rfl (Nat.le_of_ble_eq_true rfl) en14 (s_X11_timesIn e12) ?_
  refine a_aload_n dX11_withIn_11 rfl rfl ?_
  refine a_iload_n dX11_withIn_12 rfl rfl ?_
  obtain ⟨⟨ga15, gs16⟩, h⟩ := gd_t h
  obtain ⟨v17, M18, e19, h⟩ := bnd2_t h
  obtain ⟨n20, en21, e19⟩ := cal_t e19
  refine e_callV (As := [.int x3]) (st := [.int v10, .int v3]) (a := a0) (ci := 11) false dX11_withIn_13 mw_X11_nodesOf (Or.inl ⟨rfl, ml_X11_316⟩) im_X11_nodesOf se_X11_nodesOf (by decide) ga15 gs16 rfl (Nat.le_of_ble_eq_true rfl) en21 (s_X11_nodesOf e19) ?_
  refine a_iconst (v := 1) dX11_withIn_16 (by decide) ?_
  refine a_isub dX11_withIn_17 ?_
  refine a_imul dX11_withIn_18 ?_
  refine a_iadd dX11_withIn_19 ?_
  exact a_iret dX11_withIn_20 rfl (hR _ _ h)
noncomputable def b_X11_withIn (n : Nat) (a0 : Nat) (x1 : Int32) (x2 : Int32) (x3 : Int32) (M : Mem) : Option (Int32 × Mem) := T_X11_withIn_0 (fun v M => some (v, M)) none n a0 x1 x2 x3 M
set_option maxHeartbeats 4000000 in
set_option maxRecDepth 100000 in
theorem sb_X11_withIn {X : Nat × (Nat → Int32)} {al : Bool} {n : Nat} {a0 : Nat} {x1 : Int32} {x2 : Int32} {x3 : Int32} {M : Mem} {v : Int32} {M1 : Mem} (h : b_X11_withIn n a0 x1 x2 x3 M = some (v, M1)) : AE yX11_withIn cX11_withIn 4 (some .int) al n X [.ref a0, .int x1, .int x2, .int x3] M (some (.int v)) M1 := by
  refine AM.of false (by decide +kernel) (by intro h; cases h) (Nat.le_of_ble_eq_true rfl) ?_
  have h2 : T_X11_withIn_0 (fun v2 M2 => some (v2, M2) = some (v, M1)) (none = some (v, M1)) n a0 x1 x2 x3 M := (n_X11_withIn_0 (fun o => o = some (v, M1)) (fun v M => some (v, M)) none n a0 x1 x2 x3 M).mp h
  have h3 : ((none : Option (Int32 × Mem)) = some (v, M1)) = False := eq_false (by intro q; cases q)
  rw [h3] at h2
  exact w_X11_withIn_0 (fun v2 M2 h => by cases h; exact ⟨rfl, rfl⟩) h2

noncomputable abbrev f_X11_withIn := b_X11_withIn
theorem s_X11_withIn {X : Nat × (Nat → Int32)} {al : Bool} {n : Nat} {a0 : Nat} {x1 : Int32} {x2 : Int32} {x3 : Int32} {M : Mem} {v : Int32} {M1 : Mem} (h : f_X11_withIn n a0 x1 x2 x3 M = some (v, M1)) : AE yX11_withIn cX11_withIn 4 (some .int) al n X [.ref a0, .int x1, .int x2, .int x3] M (some (.int v)) M1 := sb_X11_withIn h
set_option maxHeartbeats 4000000 in
set_option maxRecDepth 100000 in
noncomputable def T_X11_willBe_0.{u} {α : Sort u} (R : Int32 → Mem → α) (N : α) (n : Nat) (a0 : Nat) (x1 : Int32) (x2 : Int32) (M : Mem) : α := gd (fO M a0 11) N (bnd2 (cal n (fun n => f_X11_nodesOf n a0 x1 M)) N (fun v3 M4 => if x2 = 1 then gd (fO M4 a0 11) N (bnd (M4.2.2.2.2 a0 41) N (fun r11 => gd (fA M4 r11 1 x1) N (bnd2 (cal n (fun n => f_X11_inner n a0 x1 1 M4)) N (fun v17 M18 => gd (fO M18 a0 11) N (bnd2 (cal n (fun n => f_X11_withIn n a0 ((x1 + 1) + 1) (M4.2.2.1 r11 (x1.toNatClampNeg)) v17 M18)) N (fun v24 M25 => R (((M.2.2.1 a0 24) - v3) + v24) M25)))))) else if x2 = 2 then gd (fO M4 a0 11) N (bnd2 (cal n (fun n => f_X11_inner n a0 (x1 + 1) 0 M4)) N (fun v32 M33 => gd (fO M33 a0 11) N (bnd2 (cal n (fun n => f_X11_nodesOf n a0 v32 M33)) N (fun v39 M40 => R (((M.2.2.1 a0 24) - v3) + v39) M40)))) else if x2 = 3 then gd (fO M4 a0 11) N (bnd2 (cal n (fun n => f_X11_inner n a0 (x1 + 1) 1 M4)) N (fun v47 M48 => gd (fO M48 a0 11) N (bnd2 (cal n (fun n => f_X11_nodesOf n a0 v47 M48)) N (fun v54 M55 => R (((M.2.2.1 a0 24) - v3) + v54) M55)))) else if x2 = 4 then gd (fO M4 a0 11) N (bnd2 (cal n (fun n => f_X11_inner n a0 x1 1 M4)) N (fun v62 M63 => gd (fO M63 a0 11) N (bnd (M63.2.2.2.2 a0 41) N (fun r69 => gd (fA M63 r69 1 x1) N (bnd2 (cal n (fun n => f_X11_inner n a0 (x1 + 1) 0 M63)) N (fun v75 M76 => gd (fO M76 a0 11) N (bnd2 (cal n (fun n => f_X11_withIn n a0 v62 (M63.2.2.1 r69 (x1.toNatClampNeg)) v75 M76)) N (fun v82 M83 => R (((M.2.2.1 a0 24) - v3) + v82) M83)))))))) else if x2 = 5 then gd (fO M4 a0 11) N (bnd2 (cal n (fun n => f_X11_inner n a0 x1 2 M4)) N (fun v90 M91 => gd (fO M91 a0 11) N (bnd (M91.2.2.2.2 a0 41) N (fun r97 => gd (fA M91 r97 1 x1) N (bnd2 (cal n (fun n => f_X11_inner n a0 (x1 + 1) 0 M91)) N (fun v103 M104 => gd (fO M104 a0 11) N (bnd2 (cal n (fun n => f_X11_withIn n a0 v90 (M91.2.2.1 r97 (x1.toNatClampNeg)) v103 M104)) N (fun v110 M111 => R (((M.2.2.1 a0 24) - v3) + v110) M111)))))))) else if x2 = 6 then gd (fO M4 a0 11) N (bnd2 (cal n (fun n => f_X11_nodesOf n a0 x1 M4)) N (fun v118 M119 => gd (fO M119 a0 11) N (bnd2 (cal n (fun n => f_X11_nodesOf n a0 x1 M119)) N (fun v125 M126 => gd (fO M126 a0 11) N (bnd2 (cal n (fun n => f_X11_nodesOf n a0 (x1 + 1) M126)) N (fun v132 M133 => R (((((M.2.2.1 a0 24) - v3) + v118) + v125) - v132) M133)))))) else gd (fO M4 a0 11) N (bnd2 (cal n (fun n => f_X11_inner n a0 (x1 + 1) 0 M4)) N (fun v139 M140 => gd (fO M140 a0 11) N (bnd2 (cal n (fun n => f_X11_nodesOf n a0 v139 M140)) N (fun v146 M147 => R ((((M.2.2.1 a0 24) - v3) + 1) + v146) M147))))))
set_option maxHeartbeats 4000000 in
set_option maxRecDepth 100000 in
theorem n_X11_willBe_0.{u, v} {α : Sort u} {β : Sort v} (h : α → β) (R : Int32 → Mem → α) (N : α) (n : Nat) (a0 : Nat) (x1 : Int32) (x2 : Int32) (M : Mem) : h (T_X11_willBe_0 R N n a0 x1 x2 M) = T_X11_willBe_0 (fun v M => h (R v M)) (h N) n a0 x1 x2 M := by
  simp only [T_X11_willBe_0, nat_ite h, nat_gd h, nat_bnd h, nat_bnd2 h]
set_option maxHeartbeats 4000000 in
set_option maxRecDepth 100000 in
theorem w_X11_willBe_0 {X : Nat × (Nat → Int32)} {al : Bool} {n : Nat} {Q : Option Value → Mem → Prop} {R : Int32 → Mem → Prop} (hR : ∀ v M, R v M → Q (some (.int v)) M) {a0 : Nat} {x1 : Int32} {x2 : Int32} {M : Mem} (h : T_X11_willBe_0 R False n a0 x1 x2 M) : AW X (RX11, cX11_willBe, 5, (some .int), false, al, n) 0 0 0 [(0, .ref a0), (1, .int x1), (2, .int x2)] [] M Q := by
  unfold T_X11_willBe_0 at h
  refine a_aload_n dX11_willBe_0 rfl rfl ?_
  obtain ⟨⟨ga1, gs2⟩, h⟩ := gd_t h
  refine a_get (v := .int (M.2.2.1 a0 24)) dX11_willBe_1 fl_11_151 ga1 gs2 rfl ?_
  refine a_aload_n dX11_willBe_4 rfl rfl ?_
  refine a_iload_n dX11_willBe_5 rfl rfl ?_
  obtain ⟨v3, M4, e5, h⟩ := bnd2_t h
  obtain ⟨n6, en7, e5⟩ := cal_t e5
  refine e_callV (As := [.int x1]) (st := [.int (M.2.2.1 a0 24)]) (a := a0) (ci := 11) false dX11_willBe_6 mw_X11_nodesOf (Or.inl ⟨rfl, ml_X11_316⟩) im_X11_nodesOf se_X11_nodesOf (by decide) ga1 gs2 rfl (Nat.le_of_ble_eq_true rfl) en7 (s_X11_nodesOf e5) ?_
  refine a_isub dX11_willBe_9 ?_
  refine a_istore_n dX11_willBe_10 rfl (Nat.le_of_ble_eq_true rfl) (lv2 := [(3, .int ((M.2.2.1 a0 24) - v3)), (0, .ref a0), (1, .int x1), (2, .int x2)]) rfl ?_
  refine a_iload_n dX11_willBe_11 rfl rfl ?_
  refine a_iconst (v := 1) dX11_willBe_12 (by decide) ?_
  refine a_iadd dX11_willBe_13 ?_
  refine a_istore dX11_willBe_14 (Nat.le_of_ble_eq_true rfl) (lv2 := [(4, .int (x1 + 1)), (3, .int ((M.2.2.1 a0 24) - v3)), (0, .ref a0), (1, .int x1), (2, .int x2)]) rfl ?_
  refine a_iload_n dX11_willBe_16 rfl rfl ?_
  by_cases c8 : x2 = 1
  · replace h := ite_t c8 h
    refine a_tableIn (off := 39) 56 dX11_willBe_17 (by rw [c8]; decide) (by rw [c8]; decide) (by rw [c8]; rfl) (by decide) ?_
    refine a_iload_n dX11_willBe_56 rfl rfl ?_
    refine a_aload_n dX11_willBe_57 rfl rfl ?_
    refine a_iload dX11_willBe_58 rfl ?_
    refine a_iconst (v := 1) dX11_willBe_60 (by decide) ?_
    refine a_iadd dX11_willBe_61 ?_
    refine a_aload_n dX11_willBe_62 rfl rfl ?_
    obtain ⟨⟨ga9, gs10⟩, h⟩ := gd_t h
    obtain ⟨r11, e12, h⟩ := bnd_t h
    refine a_get (v := .ref r11) dX11_willBe_63 fl_11_90 ga9 gs10 (gvR e12 rfl) ?_
    refine a_iload_n dX11_willBe_66 rfl rfl ?_
    obtain ⟨⟨ga13, gn14, gs15, gi16⟩, h⟩ := gd_t h
    refine a_iaload dX11_willBe_67 ga13 gs15 gi16 ?_
    refine a_aload_n dX11_willBe_68 rfl rfl ?_
    refine a_iload_n dX11_willBe_69 rfl rfl ?_
    refine a_iconst (v := 1) dX11_willBe_70 (by decide) ?_
    obtain ⟨v17, M18, e19, h⟩ := bnd2_t h
    obtain ⟨n20, en21, e19⟩ := cal_t e19
    refine e_callV (As := [.int x1, .int 1]) (st := [.int (M4.2.2.1 r11 (x1.toNatClampNeg)), .int ((x1 + 1) + 1), .ref a0, .int ((M.2.2.1 a0 24) - v3)]) (a := a0) (ci := 11) false dX11_willBe_71 mw_X11_inner (Or.inl ⟨rfl, ml_X11_319⟩) im_X11_inner se_X11_inner (by decide) ga9 gs10 rfl (Nat.le_of_ble_eq_true rfl) en21 (s_X11_inner e19) ?_
    obtain ⟨⟨ga22, gs23⟩, h⟩ := gd_t h
    obtain ⟨v24, M25, e26, h⟩ := bnd2_t h
    obtain ⟨n27, en28, e26⟩ := cal_t e26
    refine e_callV (As := [.int ((x1 + 1) + 1), .int (M4.2.2.1 r11 (x1.toNatClampNeg)), .int v17]) (st := [.int ((M.2.2.1 a0 24) - v3)]) (a := a0) (ci := 11) false dX11_willBe_74 mw_X11_withIn (Or.inl ⟨rfl, ml_X11_322⟩) im_X11_withIn se_X11_withIn (by decide) ga22 gs23 rfl (Nat.le_of_ble_eq_true rfl) en28 (s_X11_withIn e26) ?_
    refine a_iadd dX11_willBe_77 ?_
    exact a_iret dX11_willBe_78 rfl (hR _ _ h)
  replace h := ite_f c8 h
  by_cases c29 : x2 = 2
  · replace h := ite_t c29 h
    refine a_tableIn (off := 62) 79 dX11_willBe_17 (by rw [c29]; decide) (by rw [c29]; decide) (by rw [c29]; rfl) (by decide) ?_
    refine a_iload_n dX11_willBe_79 rfl rfl ?_
    refine a_aload_n dX11_willBe_80 rfl rfl ?_
    refine a_aload_n dX11_willBe_81 rfl rfl ?_
    refine a_iload dX11_willBe_82 rfl ?_
    refine a_iconst (v := 0) dX11_willBe_84 (by decide) ?_
    obtain ⟨⟨ga30, gs31⟩, h⟩ := gd_t h
    obtain ⟨v32, M33, e34, h⟩ := bnd2_t h
    obtain ⟨n35, en36, e34⟩ := cal_t e34
    refine e_callV (As := [.int (x1 + 1), .int 0]) (st := [.ref a0, .int ((M.2.2.1 a0 24) - v3)]) (a := a0) (ci := 11) false dX11_willBe_85 mw_X11_inner (Or.inl ⟨rfl, ml_X11_319⟩) im_X11_inner se_X11_inner (by decide) ga30 gs31 rfl (Nat.le_of_ble_eq_true rfl) en36 (s_X11_inner e34) ?_
    obtain ⟨⟨ga37, gs38⟩, h⟩ := gd_t h
    obtain ⟨v39, M40, e41, h⟩ := bnd2_t h
    obtain ⟨n42, en43, e41⟩ := cal_t e41
    refine e_callV (As := [.int v32]) (st := [.int ((M.2.2.1 a0 24) - v3)]) (a := a0) (ci := 11) false dX11_willBe_88 mw_X11_nodesOf (Or.inl ⟨rfl, ml_X11_316⟩) im_X11_nodesOf se_X11_nodesOf (by decide) ga37 gs38 rfl (Nat.le_of_ble_eq_true rfl) en43 (s_X11_nodesOf e41) ?_
    refine a_iadd dX11_willBe_91 ?_
    exact a_iret dX11_willBe_92 rfl (hR _ _ h)
  replace h := ite_f c29 h
  by_cases c44 : x2 = 3
  · replace h := ite_t c44 h
    refine a_tableIn (off := 76) 93 dX11_willBe_17 (by rw [c44]; decide) (by rw [c44]; decide) (by rw [c44]; rfl) (by decide) ?_
    refine a_iload_n dX11_willBe_93 rfl rfl ?_
    refine a_aload_n dX11_willBe_94 rfl rfl ?_
    refine a_aload_n dX11_willBe_95 rfl rfl ?_
    refine a_iload dX11_willBe_96 rfl ?_
    refine a_iconst (v := 1) dX11_willBe_98 (by decide) ?_
    obtain ⟨⟨ga45, gs46⟩, h⟩ := gd_t h
    obtain ⟨v47, M48, e49, h⟩ := bnd2_t h
    obtain ⟨n50, en51, e49⟩ := cal_t e49
    refine e_callV (As := [.int (x1 + 1), .int 1]) (st := [.ref a0, .int ((M.2.2.1 a0 24) - v3)]) (a := a0) (ci := 11) false dX11_willBe_99 mw_X11_inner (Or.inl ⟨rfl, ml_X11_319⟩) im_X11_inner se_X11_inner (by decide) ga45 gs46 rfl (Nat.le_of_ble_eq_true rfl) en51 (s_X11_inner e49) ?_
    obtain ⟨⟨ga52, gs53⟩, h⟩ := gd_t h
    obtain ⟨v54, M55, e56, h⟩ := bnd2_t h
    obtain ⟨n57, en58, e56⟩ := cal_t e56
    refine e_callV (As := [.int v47]) (st := [.int ((M.2.2.1 a0 24) - v3)]) (a := a0) (ci := 11) false dX11_willBe_102 mw_X11_nodesOf (Or.inl ⟨rfl, ml_X11_316⟩) im_X11_nodesOf se_X11_nodesOf (by decide) ga52 gs53 rfl (Nat.le_of_ble_eq_true rfl) en58 (s_X11_nodesOf e56) ?_
    refine a_iadd dX11_willBe_105 ?_
    exact a_iret dX11_willBe_106 rfl (hR _ _ h)
  replace h := ite_f c44 h
  by_cases c59 : x2 = 4
  · replace h := ite_t c59 h
    refine a_tableIn (off := 90) 107 dX11_willBe_17 (by rw [c59]; decide) (by rw [c59]; decide) (by rw [c59]; rfl) (by decide) ?_
    refine a_iload_n dX11_willBe_107 rfl rfl ?_
    refine a_aload_n dX11_willBe_108 rfl rfl ?_
    refine a_aload_n dX11_willBe_109 rfl rfl ?_
    refine a_iload_n dX11_willBe_110 rfl rfl ?_
    refine a_iconst (v := 1) dX11_willBe_111 (by decide) ?_
    obtain ⟨⟨ga60, gs61⟩, h⟩ := gd_t h
    obtain ⟨v62, M63, e64, h⟩ := bnd2_t h
    obtain ⟨n65, en66, e64⟩ := cal_t e64
    refine e_callV (As := [.int x1, .int 1]) (st := [.ref a0, .int ((M.2.2.1 a0 24) - v3)]) (a := a0) (ci := 11) false dX11_willBe_112 mw_X11_inner (Or.inl ⟨rfl, ml_X11_319⟩) im_X11_inner se_X11_inner (by decide) ga60 gs61 rfl (Nat.le_of_ble_eq_true rfl) en66 (s_X11_inner e64) ?_
    refine a_aload_n dX11_willBe_115 rfl rfl ?_
    obtain ⟨⟨ga67, gs68⟩, h⟩ := gd_t h
    obtain ⟨r69, e70, h⟩ := bnd_t h
    refine a_get (v := .ref r69) dX11_willBe_116 fl_11_90 ga67 gs68 (gvR e70 rfl) ?_
    refine a_iload_n dX11_willBe_119 rfl rfl ?_
    obtain ⟨⟨ga71, gn72, gs73, gi74⟩, h⟩ := gd_t h
    refine a_iaload dX11_willBe_120 ga71 gs73 gi74 ?_
    refine a_aload_n dX11_willBe_121 rfl rfl ?_
    refine a_iload dX11_willBe_122 rfl ?_
    refine a_iconst (v := 0) dX11_willBe_124 (by decide) ?_
    obtain ⟨v75, M76, e77, h⟩ := bnd2_t h
    obtain ⟨n78, en79, e77⟩ := cal_t e77
    refine e_callV (As := [.int (x1 + 1), .int 0]) (st := [.int (M63.2.2.1 r69 (x1.toNatClampNeg)), .int v62, .ref a0, .int ((M.2.2.1 a0 24) - v3)]) (a := a0) (ci := 11) false dX11_willBe_125 mw_X11_inner (Or.inl ⟨rfl, ml_X11_319⟩) im_X11_inner se_X11_inner (by decide) ga67 gs68 rfl (Nat.le_of_ble_eq_true rfl) en79 (s_X11_inner e77) ?_
    obtain ⟨⟨ga80, gs81⟩, h⟩ := gd_t h
    obtain ⟨v82, M83, e84, h⟩ := bnd2_t h
    obtain ⟨n85, en86, e84⟩ := cal_t e84
    refine e_callV (As := [.int v62, .int (M63.2.2.1 r69 (x1.toNatClampNeg)), .int v75]) (st := [.int ((M.2.2.1 a0 24) - v3)]) (a := a0) (ci := 11) false dX11_willBe_128 mw_X11_withIn (Or.inl ⟨rfl, ml_X11_322⟩) im_X11_withIn se_X11_withIn (by decide) ga80 gs81 rfl (Nat.le_of_ble_eq_true rfl) en86 (s_X11_withIn e84) ?_
    refine a_iadd dX11_willBe_131 ?_
    exact a_iret dX11_willBe_132 rfl (hR _ _ h)
  replace h := ite_f c59 h
  by_cases c87 : x2 = 5
  · replace h := ite_t c87 h
    refine a_tableIn (off := 116) 133 dX11_willBe_17 (by rw [c87]; decide) (by rw [c87]; decide) (by rw [c87]; rfl) (by decide) ?_
    refine a_iload_n dX11_willBe_133 rfl rfl ?_
    refine a_aload_n dX11_willBe_134 rfl rfl ?_
    refine a_aload_n dX11_willBe_135 rfl rfl ?_
    refine a_iload_n dX11_willBe_136 rfl rfl ?_
    refine a_iconst (v := 2) dX11_willBe_137 (by decide) ?_
    obtain ⟨⟨ga88, gs89⟩, h⟩ := gd_t h
    obtain ⟨v90, M91, e92, h⟩ := bnd2_t h
    obtain ⟨n93, en94, e92⟩ := cal_t e92
    refine e_callV (As := [.int x1, .int 2]) (st := [.ref a0, .int ((M.2.2.1 a0 24) - v3)]) (a := a0) (ci := 11) false dX11_willBe_138 mw_X11_inner (Or.inl ⟨rfl, ml_X11_319⟩) im_X11_inner se_X11_inner (by decide) ga88 gs89 rfl (Nat.le_of_ble_eq_true rfl) en94 (s_X11_inner e92) ?_
    refine a_aload_n dX11_willBe_141 rfl rfl ?_
    obtain ⟨⟨ga95, gs96⟩, h⟩ := gd_t h
    obtain ⟨r97, e98, h⟩ := bnd_t h
    refine a_get (v := .ref r97) dX11_willBe_142 fl_11_90 ga95 gs96 (gvR e98 rfl) ?_
    refine a_iload_n dX11_willBe_145 rfl rfl ?_
    obtain ⟨⟨ga99, gn100, gs101, gi102⟩, h⟩ := gd_t h
    refine a_iaload dX11_willBe_146 ga99 gs101 gi102 ?_
    refine a_aload_n dX11_willBe_147 rfl rfl ?_
    refine a_iload dX11_willBe_148 rfl ?_
    refine a_iconst (v := 0) dX11_willBe_150 (by decide) ?_
    obtain ⟨v103, M104, e105, h⟩ := bnd2_t h
    obtain ⟨n106, en107, e105⟩ := cal_t e105
    refine e_callV (As := [.int (x1 + 1), .int 0]) (st := [.int (M91.2.2.1 r97 (x1.toNatClampNeg)), .int v90, .ref a0, .int ((M.2.2.1 a0 24) - v3)]) (a := a0) (ci := 11) false dX11_willBe_151 mw_X11_inner (Or.inl ⟨rfl, ml_X11_319⟩) im_X11_inner se_X11_inner (by decide) ga95 gs96 rfl (Nat.le_of_ble_eq_true rfl) en107 (s_X11_inner e105) ?_
    obtain ⟨⟨ga108, gs109⟩, h⟩ := gd_t h
    obtain ⟨v110, M111, e112, h⟩ := bnd2_t h
    obtain ⟨n113, en114, e112⟩ := cal_t e112
    refine e_callV (As := [.int v90, .int (M91.2.2.1 r97 (x1.toNatClampNeg)), .int v103]) (st := [.int ((M.2.2.1 a0 24) - v3)]) (a := a0) (ci := 11) false dX11_willBe_154 mw_X11_withIn (Or.inl ⟨rfl, ml_X11_322⟩) im_X11_withIn se_X11_withIn (by decide) ga108 gs109 rfl (Nat.le_of_ble_eq_true rfl) en114 (s_X11_withIn e112) ?_
    refine a_iadd dX11_willBe_157 ?_
    exact a_iret dX11_willBe_158 rfl (hR _ _ h)
  replace h := ite_f c87 h
  by_cases c115 : x2 = 6
  · replace h := ite_t c115 h
    refine a_tableIn (off := 142) 159 dX11_willBe_17 (by rw [c115]; decide) (by rw [c115]; decide) (by rw [c115]; rfl) (by decide) ?_
    refine a_iload_n dX11_willBe_159 rfl rfl ?_
    refine a_aload_n dX11_willBe_160 rfl rfl ?_
    refine a_iload_n dX11_willBe_161 rfl rfl ?_
    obtain ⟨⟨ga116, gs117⟩, h⟩ := gd_t h
    obtain ⟨v118, M119, e120, h⟩ := bnd2_t h
    obtain ⟨n121, en122, e120⟩ := cal_t e120
    refine e_callV (As := [.int x1]) (st := [.int ((M.2.2.1 a0 24) - v3)]) (a := a0) (ci := 11) false dX11_willBe_162 mw_X11_nodesOf (Or.inl ⟨rfl, ml_X11_316⟩) im_X11_nodesOf se_X11_nodesOf (by decide) ga116 gs117 rfl (Nat.le_of_ble_eq_true rfl) en122 (s_X11_nodesOf e120) ?_
    refine a_iadd dX11_willBe_165 ?_
    refine a_aload_n dX11_willBe_166 rfl rfl ?_
    refine a_iload_n dX11_willBe_167 rfl rfl ?_
    obtain ⟨⟨ga123, gs124⟩, h⟩ := gd_t h
    obtain ⟨v125, M126, e127, h⟩ := bnd2_t h
    obtain ⟨n128, en129, e127⟩ := cal_t e127
    refine e_callV (As := [.int x1]) (st := [.int (((M.2.2.1 a0 24) - v3) + v118)]) (a := a0) (ci := 11) false dX11_willBe_168 mw_X11_nodesOf (Or.inl ⟨rfl, ml_X11_316⟩) im_X11_nodesOf se_X11_nodesOf (by decide) ga123 gs124 rfl (Nat.le_of_ble_eq_true rfl) en129 (s_X11_nodesOf e127) ?_
    refine a_iadd dX11_willBe_171 ?_
    refine a_aload_n dX11_willBe_172 rfl rfl ?_
    refine a_iload dX11_willBe_173 rfl ?_
    obtain ⟨⟨ga130, gs131⟩, h⟩ := gd_t h
    obtain ⟨v132, M133, e134, h⟩ := bnd2_t h
    obtain ⟨n135, en136, e134⟩ := cal_t e134
    refine e_callV (As := [.int (x1 + 1)]) (st := [.int ((((M.2.2.1 a0 24) - v3) + v118) + v125)]) (a := a0) (ci := 11) false dX11_willBe_175 mw_X11_nodesOf (Or.inl ⟨rfl, ml_X11_316⟩) im_X11_nodesOf se_X11_nodesOf (by decide) ga130 gs131 rfl (Nat.le_of_ble_eq_true rfl) en136 (s_X11_nodesOf e134) ?_
    refine a_isub dX11_willBe_178 ?_
    exact a_iret dX11_willBe_179 rfl (hR _ _ h)
  replace h := ite_f c115 h
  refine a_tableOut 180 dX11_willBe_17 (by have q0 := ne_toInt (z := 1) c8 rfl; have q1 := ne_toInt (z := 2) c29 rfl; have q2 := ne_toInt (z := 3) c44 rfl; have q3 := ne_toInt (z := 4) c59 rfl; have q4 := ne_toInt (z := 5) c87 rfl; have q5 := ne_toInt (z := 6) c115 rfl; omega) (by decide) ?_
  refine a_iload_n dX11_willBe_180 rfl rfl ?_
  refine a_iconst (v := 1) dX11_willBe_181 (by decide) ?_
  refine a_iadd dX11_willBe_182 ?_
  refine a_aload_n dX11_willBe_183 rfl rfl ?_
  refine a_aload_n dX11_willBe_184 rfl rfl ?_
  refine a_iload dX11_willBe_185 rfl ?_
  refine a_iconst (v := 0) dX11_willBe_187 (by decide) ?_
  obtain ⟨⟨ga137, gs138⟩, h⟩ := gd_t h
  obtain ⟨v139, M140, e141, h⟩ := bnd2_t h
  obtain ⟨n142, en143, e141⟩ := cal_t e141
  refine e_callV (As := [.int (x1 + 1), .int 0]) (st := [.ref a0, .int (((M.2.2.1 a0 24) - v3) + 1)]) (a := a0) (ci := 11) false dX11_willBe_188 mw_X11_inner (Or.inl ⟨rfl, ml_X11_319⟩) im_X11_inner se_X11_inner (by decide) ga137 gs138 rfl (Nat.le_of_ble_eq_true rfl) en143 (s_X11_inner e141) ?_
  obtain ⟨⟨ga144, gs145⟩, h⟩ := gd_t h
  obtain ⟨v146, M147, e148, h⟩ := bnd2_t h
  obtain ⟨n149, en150, e148⟩ := cal_t e148
  refine e_callV (As := [.int v139]) (st := [.int (((M.2.2.1 a0 24) - v3) + 1)]) (a := a0) (ci := 11) false dX11_willBe_191 mw_X11_nodesOf (Or.inl ⟨rfl, ml_X11_316⟩) im_X11_nodesOf se_X11_nodesOf (by decide) ga144 gs145 rfl (Nat.le_of_ble_eq_true rfl) en150 (s_X11_nodesOf e148) ?_
  refine a_iadd dX11_willBe_194 ?_
  exact a_iret dX11_willBe_195 rfl (hR _ _ h)
noncomputable def b_X11_willBe (n : Nat) (a0 : Nat) (x1 : Int32) (x2 : Int32) (M : Mem) : Option (Int32 × Mem) := T_X11_willBe_0 (fun v M => some (v, M)) none n a0 x1 x2 M
set_option maxHeartbeats 4000000 in
set_option maxRecDepth 100000 in
theorem sb_X11_willBe {X : Nat × (Nat → Int32)} {al : Bool} {n : Nat} {a0 : Nat} {x1 : Int32} {x2 : Int32} {M : Mem} {v : Int32} {M1 : Mem} (h : b_X11_willBe n a0 x1 x2 M = some (v, M1)) : AE yX11_willBe cX11_willBe 5 (some .int) al n X [.ref a0, .int x1, .int x2] M (some (.int v)) M1 := by
  refine AM.of false (by decide +kernel) (by intro h; cases h) (Nat.le_of_ble_eq_true rfl) ?_
  have h2 : T_X11_willBe_0 (fun v2 M2 => some (v2, M2) = some (v, M1)) (none = some (v, M1)) n a0 x1 x2 M := (n_X11_willBe_0 (fun o => o = some (v, M1)) (fun v M => some (v, M)) none n a0 x1 x2 M).mp h
  have h3 : ((none : Option (Int32 × Mem)) = some (v, M1)) = False := eq_false (by intro q; cases q)
  rw [h3] at h2
  exact w_X11_willBe_0 (fun v2 M2 h => by cases h; exact ⟨rfl, rfl⟩) h2

noncomputable abbrev f_X11_willBe := b_X11_willBe
theorem s_X11_willBe {X : Nat × (Nat → Int32)} {al : Bool} {n : Nat} {a0 : Nat} {x1 : Int32} {x2 : Int32} {M : Mem} {v : Int32} {M1 : Mem} (h : f_X11_willBe n a0 x1 x2 M = some (v, M1)) : AE yX11_willBe cX11_willBe 5 (some .int) al n X [.ref a0, .int x1, .int x2] M (some (.int v)) M1 := sb_X11_willBe h
set_option maxHeartbeats 4000000 in
set_option maxRecDepth 100000 in
noncomputable def T_X11_writes_0.{u} {α : Sort u} (R : Unit → Mem → α) (N : α) (n : Nat) (a0 : Nat) (x1 : Int32) (x2 : Int32) (M : Mem) : α := gd (fO M a0 11) N (bnd (M.2.2.2.2 a0 22) N (fun r3 => gd (fA M r3 1 (M.2.2.1 a0 25)) N (bnd (M.2.2.2.2 a0 23) N (fun r9 => gd (fA M r9 1 ((wI M r3 ((M.2.2.1 a0 25).toNatClampNeg) x1).2.2.1 a0 25)) N (R () (wI (wI (wI M r3 ((M.2.2.1 a0 25).toNatClampNeg) x1) r9 (((wI M r3 ((M.2.2.1 a0 25).toNatClampNeg) x1).2.2.1 a0 25).toNatClampNeg) x2) a0 25 (((wI (wI M r3 ((M.2.2.1 a0 25).toNatClampNeg) x1) r9 (((wI M r3 ((M.2.2.1 a0 25).toNatClampNeg) x1).2.2.1 a0 25).toNatClampNeg) x2).2.2.1 a0 25) + 1)))))))
set_option maxHeartbeats 4000000 in
set_option maxRecDepth 100000 in
theorem n_X11_writes_0.{u, v} {α : Sort u} {β : Sort v} (h : α → β) (R : Unit → Mem → α) (N : α) (n : Nat) (a0 : Nat) (x1 : Int32) (x2 : Int32) (M : Mem) : h (T_X11_writes_0 R N n a0 x1 x2 M) = T_X11_writes_0 (fun v M => h (R v M)) (h N) n a0 x1 x2 M := by
  simp only [T_X11_writes_0, nat_ite h, nat_gd h, nat_bnd h, nat_bnd2 h]
set_option maxHeartbeats 4000000 in
set_option maxRecDepth 100000 in
theorem w_X11_writes_0 {X : Nat × (Nat → Int32)} {al : Bool} {n : Nat} {Q : Option Value → Mem → Prop} {R : Unit → Mem → Prop} (hR : ∀ v M, R v M → Q none M) {a0 : Nat} {x1 : Int32} {x2 : Int32} {M : Mem} (h : T_X11_writes_0 R False n a0 x1 x2 M) : AW X (RX11, cX11_writes, 3, none, false, al, n) 0 0 0 [(0, .ref a0), (1, .int x1), (2, .int x2)] [] M Q := by
  unfold T_X11_writes_0 at h
  refine a_aload_n dX11_writes_0 rfl rfl ?_
  obtain ⟨⟨ga1, gs2⟩, h⟩ := gd_t h
  obtain ⟨r3, e4, h⟩ := bnd_t h
  refine a_get (v := .ref r3) dX11_writes_1 fl_11_65 ga1 gs2 (gvR e4 rfl) ?_
  refine a_aload_n dX11_writes_4 rfl rfl ?_
  refine a_get (v := .int (M.2.2.1 a0 25)) dX11_writes_5 fl_11_303 ga1 gs2 rfl ?_
  refine a_iload_n dX11_writes_8 rfl rfl ?_
  obtain ⟨⟨ga5, gn6, gs7, gi8⟩, h⟩ := gd_t h
  refine a_iastore dX11_writes_9 ga5 gs7 gi8 ?_
  refine a_aload_n dX11_writes_10 rfl rfl ?_
  obtain ⟨r9, e10, h⟩ := bnd_t h
  refine a_get (v := .ref r9) dX11_writes_11 fl_11_68 ga1 gs2 (gvR e10 rfl) ?_
  refine a_aload_n dX11_writes_14 rfl rfl ?_
  refine a_get (v := .int ((wI M r3 ((M.2.2.1 a0 25).toNatClampNeg) x1).2.2.1 a0 25)) dX11_writes_15 fl_11_303 ga1 gs2 rfl ?_
  refine a_iload_n dX11_writes_18 rfl rfl ?_
  obtain ⟨⟨ga11, gn12, gs13, gi14⟩, h⟩ := gd_t h
  refine a_iastore dX11_writes_19 ga11 gs13 gi14 ?_
  refine a_aload_n dX11_writes_20 rfl rfl ?_
  refine a_dup dX11_writes_21 rfl ?_
  refine a_get (v := .int ((wI (wI M r3 ((M.2.2.1 a0 25).toNatClampNeg) x1) r9 (((wI M r3 ((M.2.2.1 a0 25).toNatClampNeg) x1).2.2.1 a0 25).toNatClampNeg) x2).2.2.1 a0 25)) dX11_writes_22 fl_11_303 ga1 gs2 rfl ?_
  refine a_iconst (v := 1) dX11_writes_25 (by decide) ?_
  refine a_iadd dX11_writes_26 ?_
  refine a_putI dX11_writes_27 (Or.inl ⟨fl_11_303, Or.inl rfl⟩) rfl ga1 gs2 rfl rfl ?_
  exact a_vret dX11_writes_30 rfl (hR _ _ h)
noncomputable def b_X11_writes (n : Nat) (a0 : Nat) (x1 : Int32) (x2 : Int32) (M : Mem) : Option (Unit × Mem) := T_X11_writes_0 (fun v M => some (v, M)) none n a0 x1 x2 M
set_option maxHeartbeats 4000000 in
set_option maxRecDepth 100000 in
theorem sb_X11_writes {X : Nat × (Nat → Int32)} {al : Bool} {n : Nat} {a0 : Nat} {x1 : Int32} {x2 : Int32} {M : Mem} {v : Unit} {M1 : Mem} (h : b_X11_writes n a0 x1 x2 M = some (v, M1)) : AE yX11_writes cX11_writes 3 none al n X [.ref a0, .int x1, .int x2] M none M1 := by
  refine AM.of false (by decide +kernel) (by intro h; cases h) (Nat.le_of_ble_eq_true rfl) ?_
  have h2 : T_X11_writes_0 (fun v2 M2 => some (v2, M2) = some (v, M1)) (none = some (v, M1)) n a0 x1 x2 M := (n_X11_writes_0 (fun o => o = some (v, M1)) (fun v M => some (v, M)) none n a0 x1 x2 M).mp h
  have h3 : ((none : Option (Unit × Mem)) = some (v, M1)) = False := eq_false (by intro q; cases q)
  rw [h3] at h2
  exact w_X11_writes_0 (fun v2 M2 h => by cases h; exact ⟨rfl, rfl⟩) h2

noncomputable abbrev f_X11_writes := b_X11_writes
theorem s_X11_writes {X : Nat × (Nat → Int32)} {al : Bool} {n : Nat} {a0 : Nat} {x1 : Int32} {x2 : Int32} {M : Mem} {v : Unit} {M1 : Mem} (h : f_X11_writes n a0 x1 x2 M = some (v, M1)) : AE yX11_writes cX11_writes 3 none al n X [.ref a0, .int x1, .int x2] M none M1 := sb_X11_writes h
def ix_X11_copies (c : Nat) : List Nat := if c = 0 then [0, 1, 2, 3, 4] else if c = 3 then [0, 2, 3, 4, 5] else []
def PW_X11_copies (X : Nat × (Nat → Int32)) (al : Bool) (n : Nat) (Q : Option Value → Mem → Prop) (c : Nat) (l : List Value) (M : Mem) : Prop := AW X (RX11, cX11_copies, 6, none, false, al, n) 0 0 c (List.zip (ix_X11_copies c) l) (l.drop (ix_X11_copies c).length) M Q
set_option maxHeartbeats 4000000 in
set_option maxRecDepth 100000 in
noncomputable def T_X11_copies_0.{u} {α : Sort u} (J : Nat → List Value → Mem → α) (R : Unit → Mem → α) (N : α) (n : Nat) (a0 : Nat) (x1 : Int32) (x2 : Int32) (x3 : Int32) (x4 : Int32) (M : Mem) : α := J 3 [.ref a0, .int x2, .int x3, .int x4, .int x1] M
set_option maxHeartbeats 4000000 in
set_option maxRecDepth 100000 in
theorem n_X11_copies_0.{u, v} {α : Sort u} {β : Sort v} (h : α → β) (J : Nat → List Value → Mem → α) (R : Unit → Mem → α) (N : α) (n : Nat) (a0 : Nat) (x1 : Int32) (x2 : Int32) (x3 : Int32) (x4 : Int32) (M : Mem) : h (T_X11_copies_0 J R N n a0 x1 x2 x3 x4 M) = T_X11_copies_0 (fun c l M => h (J c l M)) (fun v M => h (R v M)) (h N) n a0 x1 x2 x3 x4 M := by
  simp only [T_X11_copies_0, nat_ite h, nat_gd h, nat_bnd h, nat_bnd2 h]
set_option maxHeartbeats 4000000 in
set_option maxRecDepth 100000 in
theorem w_X11_copies_0 {X : Nat × (Nat → Int32)} {al : Bool} {n : Nat} {Q : Option Value → Mem → Prop} {J : Nat → List Value → Mem → Prop} (hJ : ∀ c l M, J c l M → PW_X11_copies X al n Q c l M) {R : Unit → Mem → Prop} (hR : ∀ v M, R v M → Q none M) {a0 : Nat} {x1 : Int32} {x2 : Int32} {x3 : Int32} {x4 : Int32} {M : Mem} (h : T_X11_copies_0 J R False n a0 x1 x2 x3 x4 M) : AW X (RX11, cX11_copies, 6, none, false, al, n) 0 0 0 [(0, .ref a0), (1, .int x1), (2, .int x2), (3, .int x3), (4, .int x4)] [] M Q := by
  unfold T_X11_copies_0 at h
  refine a_iload_n dX11_copies_0 rfl rfl ?_
  refine a_istore dX11_copies_1 (Nat.le_of_ble_eq_true rfl) (lv2 := [(5, .int x1), (0, .ref a0), (1, .int x1), (2, .int x2), (3, .int x3), (4, .int x4)]) rfl ?_
  exact a_lv (lv2 := [(0, .ref a0), (2, .int x2), (3, .int x3), (4, .int x4), (5, .int x1)]) (fa_cons rfl (fa_cons rfl (fa_cons rfl (fa_cons rfl (fa_cons rfl fa_nil))))) (hJ _ _ _ h)
set_option maxHeartbeats 4000000 in
set_option maxRecDepth 100000 in
noncomputable def T_X11_copies_3.{u} {α : Sort u} (J : Nat → List Value → Mem → α) (R : Unit → Mem → α) (N : α) (n : Nat) (a0 : Nat) (x2 : Int32) (x3 : Int32) (x4 : Int32) (x5 : Int32) (M : Mem) : α := if x2 ≤ x5 then R () M else gd (fO M a0 11) N (bnd (M.2.2.2.2 a0 20) N (fun r4 => gd (fA M r4 1 x5) N (if (M.2.2.1 r4 (x5.toNatClampNeg)) = 0 then bnd (M.2.2.2.2 a0 21) N (fun r21 => gd (fA M r21 1 x5) N (if (M.2.2.1 r21 (x5.toNatClampNeg)) < x3 then bnd2 (cal n (fun n => f_X11_writes n a0 (M.2.2.1 r4 (x5.toNatClampNeg)) (M.2.2.1 r21 (x5.toNatClampNeg)) M)) N (fun _ M28 => J 3 [.ref a0, .int x2, .int x3, .int x4, .int (x5 + 1)] M28) else bnd2 (cal n (fun n => f_X11_writes n a0 (M.2.2.1 r4 (x5.toNatClampNeg)) ((M.2.2.1 r21 (x5.toNatClampNeg)) + x4) M)) N (fun _ M32 => J 3 [.ref a0, .int x2, .int x3, .int x4, .int (x5 + 1)] M32))) else bnd (M.2.2.2.2 a0 21) N (fun r11 => gd (fA M r11 1 x5) N (bnd2 (cal n (fun n => f_X11_writes n a0 (M.2.2.1 r4 (x5.toNatClampNeg)) (M.2.2.1 r11 (x5.toNatClampNeg)) M)) N (fun _ M17 => J 3 [.ref a0, .int x2, .int x3, .int x4, .int (x5 + 1)] M17))))))
set_option maxHeartbeats 4000000 in
set_option maxRecDepth 100000 in
theorem n_X11_copies_3.{u, v} {α : Sort u} {β : Sort v} (h : α → β) (J : Nat → List Value → Mem → α) (R : Unit → Mem → α) (N : α) (n : Nat) (a0 : Nat) (x2 : Int32) (x3 : Int32) (x4 : Int32) (x5 : Int32) (M : Mem) : h (T_X11_copies_3 J R N n a0 x2 x3 x4 x5 M) = T_X11_copies_3 (fun c l M => h (J c l M)) (fun v M => h (R v M)) (h N) n a0 x2 x3 x4 x5 M := by
  simp only [T_X11_copies_3, nat_ite h, nat_gd h, nat_bnd h, nat_bnd2 h]
set_option maxHeartbeats 4000000 in
set_option maxRecDepth 100000 in
theorem w_X11_copies_3 {X : Nat × (Nat → Int32)} {al : Bool} {n : Nat} {Q : Option Value → Mem → Prop} {J : Nat → List Value → Mem → Prop} (hJ : ∀ c l M, J c l M → PW_X11_copies X al n Q c l M) {R : Unit → Mem → Prop} (hR : ∀ v M, R v M → Q none M) {a0 : Nat} {x2 : Int32} {x3 : Int32} {x4 : Int32} {x5 : Int32} {M : Mem} (h : T_X11_copies_3 J R False n a0 x2 x3 x4 x5 M) : AW X (RX11, cX11_copies, 6, none, false, al, n) 0 0 3 [(0, .ref a0), (2, .int x2), (3, .int x3), (4, .int x4), (5, .int x5)] [] M Q := by
  unfold T_X11_copies_3 at h
  refine a_iload dX11_copies_3 rfl ?_
  refine a_iload_n dX11_copies_5 rfl rfl ?_
  refine a_icmp_ge 67 dX11_copies_6 (by decide) (fun c1 => ?_) (fun c1 => ?_)
  · replace h := ite_t c1 h
    exact a_vret dX11_copies_67 rfl (hR _ _ h)
  · replace h := ite_f c1 h
    refine a_aload_n dX11_copies_9 rfl rfl ?_
    refine a_aload_n dX11_copies_10 rfl rfl ?_
    obtain ⟨⟨ga2, gs3⟩, h⟩ := gd_t h
    obtain ⟨r4, e5, h⟩ := bnd_t h
    refine a_get (v := .ref r4) dX11_copies_11 fl_11_59 ga2 gs3 (gvR e5 rfl) ?_
    refine a_iload dX11_copies_14 rfl ?_
    obtain ⟨⟨ga6, gn7, gs8, gi9⟩, h⟩ := gd_t h
    refine a_iaload dX11_copies_16 ga6 gs8 gi9 ?_
    refine a_aload_n dX11_copies_17 rfl rfl ?_
    refine a_get (v := .ref r4) dX11_copies_18 fl_11_59 ga2 gs3 (gvR e5 rfl) ?_
    refine a_iload dX11_copies_21 rfl ?_
    refine a_iaload dX11_copies_23 ga6 gs8 gi9 ?_
    refine a_if_ne 51 dX11_copies_24 (by decide) (fun c10 => ?_) (fun c10 => ?_)
    · replace h := ite_f c10 h
      refine a_aload_n dX11_copies_51 rfl rfl ?_
      obtain ⟨r11, e12, h⟩ := bnd_t h
      refine a_get (v := .ref r11) dX11_copies_52 fl_11_62 ga2 gs3 (gvR e12 rfl) ?_
      refine a_iload dX11_copies_55 rfl ?_
      obtain ⟨⟨ga13, gn14, gs15, gi16⟩, h⟩ := gd_t h
      refine a_iaload dX11_copies_57 ga13 gs15 gi16 ?_
      obtain ⟨_, M17, e18, h⟩ := bnd2_t h
      obtain ⟨n19, en20, e18⟩ := cal_t e18
      refine e_callV (As := [.int (M.2.2.1 r4 (x5.toNatClampNeg)), .int (M.2.2.1 r11 (x5.toNatClampNeg))]) (st := []) (a := a0) (ci := 11) false dX11_copies_58 mw_X11_writes (Or.inl ⟨rfl, ml_X11_306⟩) im_X11_writes se_X11_writes (by decide) ga2 gs3 rfl (Nat.le_of_ble_eq_true rfl) en20 (s_X11_writes e18) ?_
      refine a_iinc (v := (x5 + 1)) dX11_copies_61 rfl (by first | rfl | decide) (Nat.le_of_ble_eq_true rfl) (lv2 := [(5, .int (x5 + 1)), (0, .ref a0), (2, .int x2), (3, .int x3), (4, .int x4)]) rfl ?_
      refine a_goto 3 dX11_copies_64 (by decide) ?_
      exact a_lv (lv2 := [(0, .ref a0), (2, .int x2), (3, .int x3), (4, .int x4), (5, .int (x5 + 1))]) (fa_cons rfl (fa_cons rfl (fa_cons rfl (fa_cons rfl (fa_cons rfl fa_nil))))) (hJ _ _ _ h)
    · replace h := ite_t c10 h
      refine a_aload_n dX11_copies_27 rfl rfl ?_
      obtain ⟨r21, e22, h⟩ := bnd_t h
      refine a_get (v := .ref r21) dX11_copies_28 fl_11_62 ga2 gs3 (gvR e22 rfl) ?_
      refine a_iload dX11_copies_31 rfl ?_
      obtain ⟨⟨ga23, gn24, gs25, gi26⟩, h⟩ := gd_t h
      refine a_iaload dX11_copies_33 ga23 gs25 gi26 ?_
      refine a_iload_n dX11_copies_34 rfl rfl ?_
      refine a_icmp_lt 51 dX11_copies_35 (by decide) (fun c27 => ?_) (fun c27 => ?_)
      · replace h := ite_t c27 h
        refine a_aload_n dX11_copies_51 rfl rfl ?_
        refine a_get (v := .ref r21) dX11_copies_52 fl_11_62 ga2 gs3 (gvR e22 rfl) ?_
        refine a_iload dX11_copies_55 rfl ?_
        refine a_iaload dX11_copies_57 ga23 gs25 gi26 ?_
        obtain ⟨_, M28, e29, h⟩ := bnd2_t h
        obtain ⟨n30, en31, e29⟩ := cal_t e29
        refine e_callV (As := [.int (M.2.2.1 r4 (x5.toNatClampNeg)), .int (M.2.2.1 r21 (x5.toNatClampNeg))]) (st := []) (a := a0) (ci := 11) false dX11_copies_58 mw_X11_writes (Or.inl ⟨rfl, ml_X11_306⟩) im_X11_writes se_X11_writes (by decide) ga2 gs3 rfl (Nat.le_of_ble_eq_true rfl) en31 (s_X11_writes e29) ?_
        refine a_iinc (v := (x5 + 1)) dX11_copies_61 rfl (by first | rfl | decide) (Nat.le_of_ble_eq_true rfl) (lv2 := [(5, .int (x5 + 1)), (0, .ref a0), (2, .int x2), (3, .int x3), (4, .int x4)]) rfl ?_
        refine a_goto 3 dX11_copies_64 (by decide) ?_
        exact a_lv (lv2 := [(0, .ref a0), (2, .int x2), (3, .int x3), (4, .int x4), (5, .int (x5 + 1))]) (fa_cons rfl (fa_cons rfl (fa_cons rfl (fa_cons rfl (fa_cons rfl fa_nil))))) (hJ _ _ _ h)
      · replace h := ite_f c27 h
        refine a_aload_n dX11_copies_38 rfl rfl ?_
        refine a_get (v := .ref r21) dX11_copies_39 fl_11_62 ga2 gs3 (gvR e22 rfl) ?_
        refine a_iload dX11_copies_42 rfl ?_
        refine a_iaload dX11_copies_44 ga23 gs25 gi26 ?_
        refine a_iload dX11_copies_45 rfl ?_
        refine a_iadd dX11_copies_47 ?_
        refine a_goto 58 dX11_copies_48 (by decide) ?_
        obtain ⟨_, M32, e33, h⟩ := bnd2_t h
        obtain ⟨n34, en35, e33⟩ := cal_t e33
        refine e_callV (As := [.int (M.2.2.1 r4 (x5.toNatClampNeg)), .int ((M.2.2.1 r21 (x5.toNatClampNeg)) + x4)]) (st := []) (a := a0) (ci := 11) false dX11_copies_58 mw_X11_writes (Or.inl ⟨rfl, ml_X11_306⟩) im_X11_writes se_X11_writes (by decide) ga2 gs3 rfl (Nat.le_of_ble_eq_true rfl) en35 (s_X11_writes e33) ?_
        refine a_iinc (v := (x5 + 1)) dX11_copies_61 rfl (by first | rfl | decide) (Nat.le_of_ble_eq_true rfl) (lv2 := [(5, .int (x5 + 1)), (0, .ref a0), (2, .int x2), (3, .int x3), (4, .int x4)]) rfl ?_
        refine a_goto 3 dX11_copies_64 (by decide) ?_
        exact a_lv (lv2 := [(0, .ref a0), (2, .int x2), (3, .int x3), (4, .int x4), (5, .int (x5 + 1))]) (fa_cons rfl (fa_cons rfl (fa_cons rfl (fa_cons rfl (fa_cons rfl fa_nil))))) (hJ _ _ _ h)
set_option maxHeartbeats 4000000 in
set_option maxRecDepth 100000 in
noncomputable def st_X11_copies (n : Nat) (s : Sg) : Option (Sg ⊕ (Unit × Mem)) := if s.1 = 0 then vR s.2.1 none (fun a0 t => vI t none (fun x1 t => vI t none (fun x2 t => vI t none (fun x3 t => vI t none (fun x4 t => vE t none (T_X11_copies_0 (fun c l M => some (.inl (c, l, M))) (fun v M => some (.inr (v, M))) none n a0 x1 x2 x3 x4 s.2.2)))))) else if s.1 = 3 then vR s.2.1 none (fun a0 t => vI t none (fun x2 t => vI t none (fun x3 t => vI t none (fun x4 t => vI t none (fun x5 t => vE t none (T_X11_copies_3 (fun c l M => some (.inl (c, l, M))) (fun v M => some (.inr (v, M))) none n a0 x2 x3 x4 x5 s.2.2)))))) else none
noncomputable abbrev g_X11_copies_0 (n : Nat) (a0 : Nat) (x1 : Int32) (x2 : Int32) (x3 : Int32) (x4 : Int32) (M : Mem) : Option (Unit × Mem) := lp (st_X11_copies n) (0, [.ref a0, .int x1, .int x2, .int x3, .int x4], M)
set_option maxHeartbeats 4000000 in
set_option maxRecDepth 100000 in
theorem ge_X11_copies_0 (n : Nat) (a0 : Nat) (x1 : Int32) (x2 : Int32) (x3 : Int32) (x4 : Int32) (M : Mem) : g_X11_copies_0 n a0 x1 x2 x3 x4 M = T_X11_copies_0 (fun c l M => lp (st_X11_copies n) (c, l, M)) (fun v M => some (v, M)) none n a0 x1 x2 x3 x4 M := (lp_eq _ _).trans (n_X11_copies_0 (lpK (st_X11_copies n)) (fun c l M => some (.inl (c, l, M))) (fun v M => some (.inr (v, M))) none n a0 x1 x2 x3 x4 M)
noncomputable abbrev g_X11_copies_3 (n : Nat) (a0 : Nat) (x2 : Int32) (x3 : Int32) (x4 : Int32) (x5 : Int32) (M : Mem) : Option (Unit × Mem) := lp (st_X11_copies n) (3, [.ref a0, .int x2, .int x3, .int x4, .int x5], M)
set_option maxHeartbeats 4000000 in
set_option maxRecDepth 100000 in
theorem ge_X11_copies_3 (n : Nat) (a0 : Nat) (x2 : Int32) (x3 : Int32) (x4 : Int32) (x5 : Int32) (M : Mem) : g_X11_copies_3 n a0 x2 x3 x4 x5 M = T_X11_copies_3 (fun c l M => lp (st_X11_copies n) (c, l, M)) (fun v M => some (v, M)) none n a0 x2 x3 x4 x5 M := (lp_eq _ _).trans (n_X11_copies_3 (lpK (st_X11_copies n)) (fun c l M => some (.inl (c, l, M))) (fun v M => some (.inr (v, M))) none n a0 x2 x3 x4 x5 M)
noncomputable def b_X11_copies (n : Nat) (a0 : Nat) (x1 : Int32) (x2 : Int32) (x3 : Int32) (x4 : Int32) (M : Mem) : Option (Unit × Mem) := g_X11_copies_0 n a0 x1 x2 x3 x4 M
set_option maxHeartbeats 4000000 in
set_option maxRecDepth 100000 in
theorem sb_X11_copies {X : Nat × (Nat → Int32)} {al : Bool} {n : Nat} {a0 : Nat} {x1 : Int32} {x2 : Int32} {x3 : Int32} {x4 : Int32} {M : Mem} {v : Unit} {M1 : Mem} (h : b_X11_copies n a0 x1 x2 x3 x4 M = some (v, M1)) : AE yX11_copies cX11_copies 6 none al n X [.ref a0, .int x1, .int x2, .int x3, .int x4] M none M1 := by
  refine AM.of false (by decide +kernel) (by intro h; cases h) (Nat.le_of_ble_eq_true rfl) ?_
  refine lp_snd (P := fun s r => PW_X11_copies X al n (fun v M2 => v = none ∧ M2 = r.2) s.1 s.2.1 s.2.2) ?_ h
  clear h
  rintro ⟨c, l, M⟩ r h
  unfold st_X11_copies at h
  rcases ite_p h with ⟨e, h⟩ | ⟨e, h⟩
  · replace e : c = 0 := e
    subst e
    obtain ⟨a0, tt0, e, h⟩ := vR_p id h
    replace e : l = _ := e
    subst e
    obtain ⟨x1, tt1, e, h⟩ := vI_p id h
    replace e : tt0 = _ := e
    subst e
    obtain ⟨x2, tt2, e, h⟩ := vI_p id h
    replace e : tt1 = _ := e
    subst e
    obtain ⟨x3, tt3, e, h⟩ := vI_p id h
    replace e : tt2 = _ := e
    subst e
    obtain ⟨x4, tt4, e, h⟩ := vI_p id h
    replace e : tt3 = _ := e
    subst e
    obtain ⟨e, h⟩ := vE_p id h
    replace e : tt4 = [] := e
    subst e
    exact w_X11_copies_0 (J := fun c l M => PW_X11_copies X al n (fun v M2 => v = none ∧ M2 = r.2) c l M) (R := fun v M => (v, M) = r) (fun _ _ _ h => h) (fun v M h => by cases h; exact ⟨rfl, rfl⟩) ((n_X11_copies_0 (lpP (fun (s : Sg) (r : Unit × Mem) => PW_X11_copies X al n (fun v M2 => v = none ∧ M2 = r.2) s.1 s.2.1 s.2.2) r) (fun c l M => some (.inl (c, l, M))) (fun v M => some (.inr (v, M))) none n a0 x1 x2 x3 x4 M).mp h)
  rcases ite_p h with ⟨e, h⟩ | ⟨e, h⟩
  · replace e : c = 3 := e
    subst e
    obtain ⟨a0, tt0, e, h⟩ := vR_p id h
    replace e : l = _ := e
    subst e
    obtain ⟨x2, tt1, e, h⟩ := vI_p id h
    replace e : tt0 = _ := e
    subst e
    obtain ⟨x3, tt2, e, h⟩ := vI_p id h
    replace e : tt1 = _ := e
    subst e
    obtain ⟨x4, tt3, e, h⟩ := vI_p id h
    replace e : tt2 = _ := e
    subst e
    obtain ⟨x5, tt4, e, h⟩ := vI_p id h
    replace e : tt3 = _ := e
    subst e
    obtain ⟨e, h⟩ := vE_p id h
    replace e : tt4 = [] := e
    subst e
    exact w_X11_copies_3 (J := fun c l M => PW_X11_copies X al n (fun v M2 => v = none ∧ M2 = r.2) c l M) (R := fun v M => (v, M) = r) (fun _ _ _ h => h) (fun v M h => by cases h; exact ⟨rfl, rfl⟩) ((n_X11_copies_3 (lpP (fun (s : Sg) (r : Unit × Mem) => PW_X11_copies X al n (fun v M2 => v = none ∧ M2 = r.2) s.1 s.2.1 s.2.2) r) (fun c l M => some (.inl (c, l, M))) (fun v M => some (.inr (v, M))) none n a0 x2 x3 x4 x5 M).mp h)
  · exact h.elim

noncomputable abbrev f_X11_copies := b_X11_copies
theorem s_X11_copies {X : Nat × (Nat → Int32)} {al : Bool} {n : Nat} {a0 : Nat} {x1 : Int32} {x2 : Int32} {x3 : Int32} {x4 : Int32} {M : Mem} {v : Unit} {M1 : Mem} (h : f_X11_copies n a0 x1 x2 x3 x4 M = some (v, M1)) : AE yX11_copies cX11_copies 6 none al n X [.ref a0, .int x1, .int x2, .int x3, .int x4] M none M1 := sb_X11_copies h
