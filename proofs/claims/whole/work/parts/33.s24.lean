/-! METHODS AS FUNCTIONS, written by wip/gen/shallow.py -/
def ix_X11_redexesOf (c : Nat) : List Nat := if c = 0 then [0, 1] else if c = 4 then [0, 1, 2, 3] else []
def PW_X11_redexesOf (X : Nat × (Nat → Int32)) (al : Bool) (n : Nat) (Q : Option Value → Mem → Prop) (c : Nat) (l : List Value) (M : Mem) : Prop := AW X (RX11, cX11_redexesOf, 5, (some .int), false, al, n) 0 0 c (List.zip (ix_X11_redexesOf c) l) (l.drop (ix_X11_redexesOf c).length) M Q
set_option maxHeartbeats 4000000 in
set_option maxRecDepth 100000 in
noncomputable def T_X11_redexesOf_0.{u} {α : Sort u} (J : Nat → List Value → Mem → α) (R : Int32 → Mem → α) (N : α) (n : Nat) (a0 : Nat) (x1 : Int32) (M : Mem) : α := J 4 [.ref a0, .int x1, .int 0, .int 0] M
set_option maxHeartbeats 4000000 in
set_option maxRecDepth 100000 in
theorem n_X11_redexesOf_0.{u, v} {α : Sort u} {β : Sort v} (h : α → β) (J : Nat → List Value → Mem → α) (R : Int32 → Mem → α) (N : α) (n : Nat) (a0 : Nat) (x1 : Int32) (M : Mem) : h (T_X11_redexesOf_0 J R N n a0 x1 M) = T_X11_redexesOf_0 (fun c l M => h (J c l M)) (fun v M => h (R v M)) (h N) n a0 x1 M := by
  simp only [T_X11_redexesOf_0, nat_ite h, nat_gd h, nat_bnd h, nat_bnd2 h]
set_option maxHeartbeats 4000000 in
set_option maxRecDepth 100000 in
theorem w_X11_redexesOf_0 {X : Nat × (Nat → Int32)} {al : Bool} {n : Nat} {Q : Option Value → Mem → Prop} {J : Nat → List Value → Mem → Prop} (hJ : ∀ c l M, J c l M → PW_X11_redexesOf X al n Q c l M) {R : Int32 → Mem → Prop} (hR : ∀ v M, R v M → Q (some (.int v)) M) {a0 : Nat} {x1 : Int32} {M : Mem} (h : T_X11_redexesOf_0 J R False n a0 x1 M) : AW X (RX11, cX11_redexesOf, 5, (some .int), false, al, n) 0 0 0 [(0, .ref a0), (1, .int x1)] [] M Q := by
  unfold T_X11_redexesOf_0 at h
  refine a_iconst (v := 0) dX11_redexesOf_0 (by decide) ?_
  refine a_istore_n dX11_redexesOf_1 rfl (Nat.le_of_ble_eq_true rfl) (lv2 := [(2, .int 0), (0, .ref a0), (1, .int x1)]) rfl ?_
  refine a_iconst (v := 0) dX11_redexesOf_2 (by decide) ?_
  refine a_istore_n dX11_redexesOf_3 rfl (Nat.le_of_ble_eq_true rfl) (lv2 := [(3, .int 0), (2, .int 0), (0, .ref a0), (1, .int x1)]) rfl ?_
  exact a_lv (lv2 := [(0, .ref a0), (1, .int x1), (2, .int 0), (3, .int 0)]) (fa_cons rfl (fa_cons rfl (fa_cons rfl (fa_cons rfl fa_nil)))) (hJ _ _ _ h)
set_option maxHeartbeats 4000000 in
set_option maxRecDepth 100000 in
noncomputable def T_X11_redexesOf_4.{u} {α : Sort u} (J : Nat → List Value → Mem → α) (R : Int32 → Mem → α) (N : α) (n : Nat) (a0 : Nat) (x1 : Int32) (x2 : Int32) (x3 : Int32) (M : Mem) : α := gd (fO M a0 11) N (if (M.2.2.1 a0 24) ≤ x3 then R x2 M else bnd2 (cal n (fun n => f_X11_redexAt n a0 x3 M)) N (fun v4 M5 => if v4 ≤ 0 then J 4 [.ref a0, .int x1, .int (x2 + 0), .int (x3 + 1)] M5 else if x1 = 0 then J 4 [.ref a0, .int x1, .int (x2 + 1), .int (x3 + 1)] M5 else if v4 = x1 then J 4 [.ref a0, .int x1, .int (x2 + 1), .int (x3 + 1)] M5 else J 4 [.ref a0, .int x1, .int (x2 + 0), .int (x3 + 1)] M5))
set_option maxHeartbeats 4000000 in
set_option maxRecDepth 100000 in
theorem n_X11_redexesOf_4.{u, v} {α : Sort u} {β : Sort v} (h : α → β) (J : Nat → List Value → Mem → α) (R : Int32 → Mem → α) (N : α) (n : Nat) (a0 : Nat) (x1 : Int32) (x2 : Int32) (x3 : Int32) (M : Mem) : h (T_X11_redexesOf_4 J R N n a0 x1 x2 x3 M) = T_X11_redexesOf_4 (fun c l M => h (J c l M)) (fun v M => h (R v M)) (h N) n a0 x1 x2 x3 M := by
  simp only [T_X11_redexesOf_4, nat_ite h, nat_gd h, nat_bnd h, nat_bnd2 h]
set_option maxHeartbeats 4000000 in
set_option maxRecDepth 100000 in
theorem w_X11_redexesOf_4 {X : Nat × (Nat → Int32)} {al : Bool} {n : Nat} {Q : Option Value → Mem → Prop} {J : Nat → List Value → Mem → Prop} (hJ : ∀ c l M, J c l M → PW_X11_redexesOf X al n Q c l M) {R : Int32 → Mem → Prop} (hR : ∀ v M, R v M → Q (some (.int v)) M) {a0 : Nat} {x1 : Int32} {x2 : Int32} {x3 : Int32} {M : Mem} (h : T_X11_redexesOf_4 J R False n a0 x1 x2 x3 M) : AW X (RX11, cX11_redexesOf, 5, (some .int), false, al, n) 0 0 4 [(0, .ref a0), (1, .int x1), (2, .int x2), (3, .int x3)] [] M Q := by
  unfold T_X11_redexesOf_4 at h
  refine a_iload_n dX11_redexesOf_4 rfl rfl ?_
  refine a_aload_n dX11_redexesOf_5 rfl rfl ?_
  obtain ⟨⟨ga1, gs2⟩, h⟩ := gd_t h
  refine a_get (v := .int (M.2.2.1 a0 24)) dX11_redexesOf_6 fl_11_151 ga1 gs2 rfl ?_
  refine a_icmp_ge 48 dX11_redexesOf_9 (by decide) (fun c3 => ?_) (fun c3 => ?_)
  · replace h := ite_t c3 h
    refine a_iload_n dX11_redexesOf_48 rfl rfl ?_
    exact a_iret dX11_redexesOf_49 rfl (hR _ _ h)
  · replace h := ite_f c3 h
    refine a_aload_n dX11_redexesOf_12 rfl rfl ?_
    refine a_iload_n dX11_redexesOf_13 rfl rfl ?_
    obtain ⟨v4, M5, e6, h⟩ := bnd2_t h
    obtain ⟨n7, en8, e6⟩ := cal_t e6
    refine e_callV (As := [.int x3]) (st := []) (a := a0) (ci := 11) false dX11_redexesOf_14 mw_X11_redexAt (Or.inl ⟨rfl, ml_X11_300⟩) im_X11_redexAt se_X11_redexAt (by decide) ga1 gs2 rfl (Nat.le_of_ble_eq_true rfl) en8 (s_X11_redexAt e6) ?_
    refine a_istore dX11_redexesOf_17 (Nat.le_of_ble_eq_true rfl) (lv2 := [(4, .int v4), (0, .ref a0), (1, .int x1), (2, .int x2), (3, .int x3)]) rfl ?_
    refine a_iload_n dX11_redexesOf_19 rfl rfl ?_
    refine a_iload dX11_redexesOf_20 rfl ?_
    refine a_if_le 39 dX11_redexesOf_22 (by decide) (fun c9 => ?_) (fun c9 => ?_)
    · replace h := ite_t c9 h
      refine a_iconst (v := 0) dX11_redexesOf_39 (by decide) ?_
      refine a_iadd dX11_redexesOf_40 ?_
      refine a_istore_n dX11_redexesOf_41 rfl (Nat.le_of_ble_eq_true rfl) (lv2 := [(2, .int (x2 + 0)), (4, .int v4), (0, .ref a0), (1, .int x1), (3, .int x3)]) rfl ?_
      refine a_iinc (v := (x3 + 1)) dX11_redexesOf_42 rfl (by first | rfl | decide) (Nat.le_of_ble_eq_true rfl) (lv2 := [(3, .int (x3 + 1)), (2, .int (x2 + 0)), (4, .int v4), (0, .ref a0), (1, .int x1)]) rfl ?_
      refine a_goto 4 dX11_redexesOf_45 (by decide) ?_
      exact a_lv (lv2 := [(0, .ref a0), (1, .int x1), (2, .int (x2 + 0)), (3, .int (x3 + 1))]) (fa_cons rfl (fa_cons rfl (fa_cons rfl (fa_cons rfl fa_nil)))) (hJ _ _ _ h)
    · replace h := ite_f c9 h
      refine a_iload_n dX11_redexesOf_25 rfl rfl ?_
      refine a_if_eq 35 dX11_redexesOf_26 (by decide) (fun c10 => ?_) (fun c10 => ?_)
      · replace h := ite_t c10 h
        refine a_iconst (v := 1) dX11_redexesOf_35 (by decide) ?_
        refine a_goto 40 dX11_redexesOf_36 (by decide) ?_
        refine a_iadd dX11_redexesOf_40 ?_
        refine a_istore_n dX11_redexesOf_41 rfl (Nat.le_of_ble_eq_true rfl) (lv2 := [(2, .int (x2 + 1)), (4, .int v4), (0, .ref a0), (1, .int x1), (3, .int x3)]) rfl ?_
        refine a_iinc (v := (x3 + 1)) dX11_redexesOf_42 rfl (by first | rfl | decide) (Nat.le_of_ble_eq_true rfl) (lv2 := [(3, .int (x3 + 1)), (2, .int (x2 + 1)), (4, .int v4), (0, .ref a0), (1, .int x1)]) rfl ?_
        refine a_goto 4 dX11_redexesOf_45 (by decide) ?_
        exact a_lv (lv2 := [(0, .ref a0), (1, .int x1), (2, .int (x2 + 1)), (3, .int (x3 + 1))]) (fa_cons rfl (fa_cons rfl (fa_cons rfl (fa_cons rfl fa_nil)))) (hJ _ _ _ h)
      · replace h := ite_f c10 h
        refine a_iload dX11_redexesOf_29 rfl ?_
        refine a_iload_n dX11_redexesOf_31 rfl rfl ?_
        refine a_icmp_ne 39 dX11_redexesOf_32 (by decide) (fun c11 => ?_) (fun c11 => ?_)
        · replace h := ite_f c11 h
          refine a_iconst (v := 0) dX11_redexesOf_39 (by decide) ?_
          refine a_iadd dX11_redexesOf_40 ?_
          refine a_istore_n dX11_redexesOf_41 rfl (Nat.le_of_ble_eq_true rfl) (lv2 := [(2, .int (x2 + 0)), (4, .int v4), (0, .ref a0), (1, .int x1), (3, .int x3)]) rfl ?_
          refine a_iinc (v := (x3 + 1)) dX11_redexesOf_42 rfl (by first | rfl | decide) (Nat.le_of_ble_eq_true rfl) (lv2 := [(3, .int (x3 + 1)), (2, .int (x2 + 0)), (4, .int v4), (0, .ref a0), (1, .int x1)]) rfl ?_
          refine a_goto 4 dX11_redexesOf_45 (by decide) ?_
          exact a_lv (lv2 := [(0, .ref a0), (1, .int x1), (2, .int (x2 + 0)), (3, .int (x3 + 1))]) (fa_cons rfl (fa_cons rfl (fa_cons rfl (fa_cons rfl fa_nil)))) (hJ _ _ _ h)
        · replace h := ite_t c11 h
          refine a_iconst (v := 1) dX11_redexesOf_35 (by decide) ?_
          refine a_goto 40 dX11_redexesOf_36 (by decide) ?_
          refine a_iadd dX11_redexesOf_40 ?_
          refine a_istore_n dX11_redexesOf_41 rfl (Nat.le_of_ble_eq_true rfl) (lv2 := [(2, .int (x2 + 1)), (4, .int v4), (0, .ref a0), (1, .int x1), (3, .int x3)]) rfl ?_
          refine a_iinc (v := (x3 + 1)) dX11_redexesOf_42 rfl (by first | rfl | decide) (Nat.le_of_ble_eq_true rfl) (lv2 := [(3, .int (x3 + 1)), (2, .int (x2 + 1)), (4, .int v4), (0, .ref a0), (1, .int x1)]) rfl ?_
          refine a_goto 4 dX11_redexesOf_45 (by decide) ?_
          exact a_lv (lv2 := [(0, .ref a0), (1, .int x1), (2, .int (x2 + 1)), (3, .int (x3 + 1))]) (fa_cons rfl (fa_cons rfl (fa_cons rfl (fa_cons rfl fa_nil)))) (hJ _ _ _ h)
set_option maxHeartbeats 4000000 in
set_option maxRecDepth 100000 in
noncomputable def st_X11_redexesOf (n : Nat) (s : Sg) : Option (Sg ⊕ (Int32 × Mem)) := if s.1 = 0 then vR s.2.1 none (fun a0 t => vI t none (fun x1 t => vE t none (T_X11_redexesOf_0 (fun c l M => some (.inl (c, l, M))) (fun v M => some (.inr (v, M))) none n a0 x1 s.2.2))) else if s.1 = 4 then vR s.2.1 none (fun a0 t => vI t none (fun x1 t => vI t none (fun x2 t => vI t none (fun x3 t => vE t none (T_X11_redexesOf_4 (fun c l M => some (.inl (c, l, M))) (fun v M => some (.inr (v, M))) none n a0 x1 x2 x3 s.2.2))))) else none
noncomputable abbrev g_X11_redexesOf_0 (n : Nat) (a0 : Nat) (x1 : Int32) (M : Mem) : Option (Int32 × Mem) := lp (st_X11_redexesOf n) (0, [.ref a0, .int x1], M)
set_option maxHeartbeats 4000000 in
set_option maxRecDepth 100000 in
theorem ge_X11_redexesOf_0 (n : Nat) (a0 : Nat) (x1 : Int32) (M : Mem) : g_X11_redexesOf_0 n a0 x1 M = T_X11_redexesOf_0 (fun c l M => lp (st_X11_redexesOf n) (c, l, M)) (fun v M => some (v, M)) none n a0 x1 M := (lp_eq _ _).trans (n_X11_redexesOf_0 (lpK (st_X11_redexesOf n)) (fun c l M => some (.inl (c, l, M))) (fun v M => some (.inr (v, M))) none n a0 x1 M)
noncomputable abbrev g_X11_redexesOf_4 (n : Nat) (a0 : Nat) (x1 : Int32) (x2 : Int32) (x3 : Int32) (M : Mem) : Option (Int32 × Mem) := lp (st_X11_redexesOf n) (4, [.ref a0, .int x1, .int x2, .int x3], M)
set_option maxHeartbeats 4000000 in
set_option maxRecDepth 100000 in
theorem ge_X11_redexesOf_4 (n : Nat) (a0 : Nat) (x1 : Int32) (x2 : Int32) (x3 : Int32) (M : Mem) : g_X11_redexesOf_4 n a0 x1 x2 x3 M = T_X11_redexesOf_4 (fun c l M => lp (st_X11_redexesOf n) (c, l, M)) (fun v M => some (v, M)) none n a0 x1 x2 x3 M := (lp_eq _ _).trans (n_X11_redexesOf_4 (lpK (st_X11_redexesOf n)) (fun c l M => some (.inl (c, l, M))) (fun v M => some (.inr (v, M))) none n a0 x1 x2 x3 M)
noncomputable def b_X11_redexesOf (n : Nat) (a0 : Nat) (x1 : Int32) (M : Mem) : Option (Int32 × Mem) := g_X11_redexesOf_0 n a0 x1 M
set_option maxHeartbeats 4000000 in
set_option maxRecDepth 100000 in
theorem sb_X11_redexesOf {X : Nat × (Nat → Int32)} {al : Bool} {n : Nat} {a0 : Nat} {x1 : Int32} {M : Mem} {v : Int32} {M1 : Mem} (h : b_X11_redexesOf n a0 x1 M = some (v, M1)) : AE yX11_redexesOf cX11_redexesOf 5 (some .int) al n X [.ref a0, .int x1] M (some (.int v)) M1 := by
  refine AM.of false (by decide +kernel) (by intro h; cases h) (Nat.le_of_ble_eq_true rfl) ?_
  refine lp_snd (P := fun s r => PW_X11_redexesOf X al n (fun v M2 => v = (some (.int r.1)) ∧ M2 = r.2) s.1 s.2.1 s.2.2) ?_ h
  clear h
  rintro ⟨c, l, M⟩ r h
  unfold st_X11_redexesOf at h
  rcases ite_p h with ⟨e, h⟩ | ⟨e, h⟩
  · replace e : c = 0 := e
    subst e
    obtain ⟨a0, tt0, e, h⟩ := vR_p id h
    replace e : l = _ := e
    subst e
    obtain ⟨x1, tt1, e, h⟩ := vI_p id h
    replace e : tt0 = _ := e
    subst e
    obtain ⟨e, h⟩ := vE_p id h
    replace e : tt1 = [] := e
    subst e
    exact w_X11_redexesOf_0 (J := fun c l M => PW_X11_redexesOf X al n (fun v M2 => v = (some (.int r.1)) ∧ M2 = r.2) c l M) (R := fun v M => (v, M) = r) (fun _ _ _ h => h) (fun v M h => by cases h; exact ⟨rfl, rfl⟩) ((n_X11_redexesOf_0 (lpP (fun (s : Sg) (r : Int32 × Mem) => PW_X11_redexesOf X al n (fun v M2 => v = (some (.int r.1)) ∧ M2 = r.2) s.1 s.2.1 s.2.2) r) (fun c l M => some (.inl (c, l, M))) (fun v M => some (.inr (v, M))) none n a0 x1 M).mp h)
  rcases ite_p h with ⟨e, h⟩ | ⟨e, h⟩
  · replace e : c = 4 := e
    subst e
    obtain ⟨a0, tt0, e, h⟩ := vR_p id h
    replace e : l = _ := e
    subst e
    obtain ⟨x1, tt1, e, h⟩ := vI_p id h
    replace e : tt0 = _ := e
    subst e
    obtain ⟨x2, tt2, e, h⟩ := vI_p id h
    replace e : tt1 = _ := e
    subst e
    obtain ⟨x3, tt3, e, h⟩ := vI_p id h
    replace e : tt2 = _ := e
    subst e
    obtain ⟨e, h⟩ := vE_p id h
    replace e : tt3 = [] := e
    subst e
    exact w_X11_redexesOf_4 (J := fun c l M => PW_X11_redexesOf X al n (fun v M2 => v = (some (.int r.1)) ∧ M2 = r.2) c l M) (R := fun v M => (v, M) = r) (fun _ _ _ h => h) (fun v M h => by cases h; exact ⟨rfl, rfl⟩) ((n_X11_redexesOf_4 (lpP (fun (s : Sg) (r : Int32 × Mem) => PW_X11_redexesOf X al n (fun v M2 => v = (some (.int r.1)) ∧ M2 = r.2) s.1 s.2.1 s.2.2) r) (fun c l M => some (.inl (c, l, M))) (fun v M => some (.inr (v, M))) none n a0 x1 x2 x3 M).mp h)
  · exact h.elim

noncomputable abbrev f_X11_redexesOf := b_X11_redexesOf
theorem s_X11_redexesOf {X : Nat × (Nat → Int32)} {al : Bool} {n : Nat} {a0 : Nat} {x1 : Int32} {M : Mem} {v : Int32} {M1 : Mem} (h : f_X11_redexesOf n a0 x1 M = some (v, M1)) : AE yX11_redexesOf cX11_redexesOf 5 (some .int) al n X [.ref a0, .int x1] M (some (.int v)) M1 := sb_X11_redexesOf h
set_option maxHeartbeats 4000000 in
set_option maxRecDepth 100000 in
noncomputable def T_X11_redexes_0.{u} {α : Sort u} (R : Int32 → Mem → α) (N : α) (n : Nat) (a0 : Nat) (x1 : Int32) (x2 : Int32) (M : Mem) : α := gd (fO M a0 11) N (bnd2 (cal n (fun n => f_X11_isSlot n x1 (wI M a0 0 0))) N (fun v3 M4 => if v3 = 0 then R (-2) M4 else bnd2 (cal n (fun n => f_X11_isIn n (Int32.toInt64 x2) 0 (7) M4)) N (fun v9 M10 => if v9 = 0 then R (-2) M10 else gd (fO M10 a0 11) N (bnd2 (cal n (fun n => f_X11_isEmpty n a0 x1 M10)) N (fun v17 M18 => if v17 = 0 then gd (fO M18 a0 11) N (bnd2 (cal n (fun n => f_X11_takes n a0 x1 M18)) N (fun _ M25 => gd (fO M25 a0 11) N (bnd2 (cal n (fun n => f_X11_redexesOf n a0 x2 M25)) N (fun v31 M32 => R v31 M32)))) else R (-5) M18)))))
set_option maxHeartbeats 4000000 in
set_option maxRecDepth 100000 in
theorem n_X11_redexes_0.{u, v} {α : Sort u} {β : Sort v} (h : α → β) (R : Int32 → Mem → α) (N : α) (n : Nat) (a0 : Nat) (x1 : Int32) (x2 : Int32) (M : Mem) : h (T_X11_redexes_0 R N n a0 x1 x2 M) = T_X11_redexes_0 (fun v M => h (R v M)) (h N) n a0 x1 x2 M := by
  simp only [T_X11_redexes_0, nat_ite h, nat_gd h, nat_bnd h, nat_bnd2 h]
set_option maxHeartbeats 4000000 in
set_option maxRecDepth 100000 in
theorem w_X11_redexes_0 {X : Nat × (Nat → Int32)} {al : Bool} {n : Nat} {Q : Option Value → Mem → Prop} {R : Int32 → Mem → Prop} (hR : ∀ v M, R v M → Q (some (.int v)) M) {a0 : Nat} {x1 : Int32} {x2 : Int32} {M : Mem} (h : T_X11_redexes_0 R False n a0 x1 x2 M) : AW X (RX11, cX11_redexes, 3, (some .int), false, al, n) 0 0 0 [(0, .ref a0), (1, .int x1), (2, .int x2)] [] M Q := by
  unfold T_X11_redexes_0 at h
  refine a_aload_n dX11_redexes_0 rfl rfl ?_
  refine a_iconst (v := 0) dX11_redexes_1 (by decide) ?_
  obtain ⟨⟨ga1, gs2⟩, h⟩ := gd_t h
  refine a_putI dX11_redexes_2 (Or.inl ⟨fl_11_1, Or.inl rfl⟩) rfl ga1 gs2 rfl rfl ?_
  refine a_iload_n dX11_redexes_5 rfl rfl ?_
  obtain ⟨v3, M4, e5, h⟩ := bnd2_t h
  obtain ⟨n6, en7, e5⟩ := cal_t e5
  refine e_callS (As := [.int x1]) (st := []) false dX11_redexes_6 mw_X11_isSlot (Or.inl ⟨rfl, ml_X11_271⟩) sm_X11_isSlot rfl (Nat.le_of_ble_eq_true rfl) en7 (s_X11_isSlot e5) ?_
  refine a_if_eq 24 dX11_redexes_9 (by decide) (fun c8 => ?_) (fun c8 => ?_)
  · replace h := ite_t c8 h
    refine a_bipush (v := -2) dX11_redexes_24 (by decide) ?_
    exact a_iret dX11_redexes_26 rfl (hR _ _ h)
  · replace h := ite_f c8 h
    refine a_iload_n dX11_redexes_12 rfl rfl ?_
    refine a_i2l dX11_redexes_13 ?_
    refine a_lconst (v := 0) dX11_redexes_14 (by decide) ?_
    refine a_ldc2 dX11_redexes_15 co_X11_409 ?_
    obtain ⟨v9, M10, e11, h⟩ := bnd2_t h
    obtain ⟨n12, en13, e11⟩ := cal_t e11
    refine e_callS (As := [.long (Int32.toInt64 x2), .long 0, .long (7)]) (st := []) false dX11_redexes_18 mw_X11_isIn (Or.inl ⟨rfl, ml_X11_180⟩) sm_X11_isIn rfl (Nat.le_of_ble_eq_true rfl) en13 (s_X11_isIn e11) ?_
    refine a_if_ne 27 dX11_redexes_21 (by decide) (fun c14 => ?_) (fun c14 => ?_)
    · replace h := ite_f c14 h
      refine a_aload_n dX11_redexes_27 rfl rfl ?_
      refine a_iload_n dX11_redexes_28 rfl rfl ?_
      obtain ⟨⟨ga15, gs16⟩, h⟩ := gd_t h
      obtain ⟨v17, M18, e19, h⟩ := bnd2_t h
      obtain ⟨n20, en21, e19⟩ := cal_t e19
      refine e_callV (As := [.int x1]) (st := []) (a := a0) (ci := 11) false dX11_redexes_29 mw_X11_isEmpty (Or.inl ⟨rfl, ml_X11_343⟩) im_X11_isEmpty se_X11_isEmpty (by decide) ga15 gs16 rfl (Nat.le_of_ble_eq_true rfl) en21 (s_X11_isEmpty e19) ?_
      refine a_if_eq 38 dX11_redexes_32 (by decide) (fun c22 => ?_) (fun c22 => ?_)
      · replace h := ite_t c22 h
        refine a_aload_n dX11_redexes_38 rfl rfl ?_
        refine a_iload_n dX11_redexes_39 rfl rfl ?_
        obtain ⟨⟨ga23, gs24⟩, h⟩ := gd_t h
        obtain ⟨_, M25, e26, h⟩ := bnd2_t h
        obtain ⟨n27, en28, e26⟩ := cal_t e26
        refine e_callV (As := [.int x1]) (st := []) (a := a0) (ci := 11) false dX11_redexes_40 mw_X11_takes (Or.inl ⟨rfl, ml_X11_346⟩) im_X11_takes se_X11_takes (by decide) ga23 gs24 rfl (Nat.le_of_ble_eq_true rfl) en28 (s_X11_takes e26) ?_
        refine a_aload_n dX11_redexes_43 rfl rfl ?_
        refine a_iload_n dX11_redexes_44 rfl rfl ?_
        obtain ⟨⟨ga29, gs30⟩, h⟩ := gd_t h
        obtain ⟨v31, M32, e33, h⟩ := bnd2_t h
        obtain ⟨n34, en35, e33⟩ := cal_t e33
        refine e_callV (As := [.int x2]) (st := []) (a := a0) (ci := 11) false dX11_redexes_45 mw_X11_redexesOf (Or.inl ⟨rfl, ml_X11_411⟩) im_X11_redexesOf se_X11_redexesOf (by decide) ga29 gs30 rfl (Nat.le_of_ble_eq_true rfl) en35 (s_X11_redexesOf e33) ?_
        exact a_iret dX11_redexes_48 rfl (hR _ _ h)
      · replace h := ite_f c22 h
        refine a_bipush (v := -5) dX11_redexes_35 (by decide) ?_
        exact a_iret dX11_redexes_37 rfl (hR _ _ h)
    · replace h := ite_t c14 h
      refine a_bipush (v := -2) dX11_redexes_24 (by decide) ?_
      exact a_iret dX11_redexes_26 rfl (hR _ _ h)
noncomputable def b_X11_redexes (n : Nat) (a0 : Nat) (x1 : Int32) (x2 : Int32) (M : Mem) : Option (Int32 × Mem) := T_X11_redexes_0 (fun v M => some (v, M)) none n a0 x1 x2 M
set_option maxHeartbeats 4000000 in
set_option maxRecDepth 100000 in
theorem sb_X11_redexes {X : Nat × (Nat → Int32)} {al : Bool} {n : Nat} {a0 : Nat} {x1 : Int32} {x2 : Int32} {M : Mem} {v : Int32} {M1 : Mem} (h : b_X11_redexes n a0 x1 x2 M = some (v, M1)) : AE yX11_redexes cX11_redexes 3 (some .int) al n X [.ref a0, .int x1, .int x2] M (some (.int v)) M1 := by
  refine AM.of false (by decide +kernel) (by intro h; cases h) (Nat.le_of_ble_eq_true rfl) ?_
  have h2 : T_X11_redexes_0 (fun v2 M2 => some (v2, M2) = some (v, M1)) (none = some (v, M1)) n a0 x1 x2 M := (n_X11_redexes_0 (fun o => o = some (v, M1)) (fun v M => some (v, M)) none n a0 x1 x2 M).mp h
  have h3 : ((none : Option (Int32 × Mem)) = some (v, M1)) = False := eq_false (by intro q; cases q)
  rw [h3] at h2
  exact w_X11_redexes_0 (fun v2 M2 h => by cases h; exact ⟨rfl, rfl⟩) h2

noncomputable abbrev f_X11_redexes := b_X11_redexes
theorem s_X11_redexes {X : Nat × (Nat → Int32)} {al : Bool} {n : Nat} {a0 : Nat} {x1 : Int32} {x2 : Int32} {M : Mem} {v : Int32} {M1 : Mem} (h : f_X11_redexes n a0 x1 x2 M = some (v, M1)) : AE yX11_redexes cX11_redexes 3 (some .int) al n X [.ref a0, .int x1, .int x2] M (some (.int v)) M1 := sb_X11_redexes h
def ix_X9_firstRedex (c : Nat) : List Nat := if c = 0 then [0] else if c = 2 then [0, 1] else []
def PW_X9_firstRedex (X : Nat × (Nat → Int32)) (al : Bool) (n : Nat) (Q : Option Value → Mem → Prop) (c : Nat) (l : List Value) (M : Mem) : Prop := AW X (RX9, cX9_firstRedex, 2, (some .int), false, al, n) 0 0 c (List.zip (ix_X9_firstRedex c) l) (l.drop (ix_X9_firstRedex c).length) M Q
set_option maxHeartbeats 4000000 in
set_option maxRecDepth 100000 in
noncomputable def T_X9_firstRedex_0.{u} {α : Sort u} (J : Nat → List Value → Mem → α) (R : Int32 → Mem → α) (N : α) (n : Nat) (a0 : Nat) (M : Mem) : α := J 2 [.ref a0, .int 0] M
set_option maxHeartbeats 4000000 in
set_option maxRecDepth 100000 in
theorem n_X9_firstRedex_0.{u, v} {α : Sort u} {β : Sort v} (h : α → β) (J : Nat → List Value → Mem → α) (R : Int32 → Mem → α) (N : α) (n : Nat) (a0 : Nat) (M : Mem) : h (T_X9_firstRedex_0 J R N n a0 M) = T_X9_firstRedex_0 (fun c l M => h (J c l M)) (fun v M => h (R v M)) (h N) n a0 M := by
  simp only [T_X9_firstRedex_0, nat_ite h, nat_gd h, nat_bnd h, nat_bnd2 h]
set_option maxHeartbeats 4000000 in
set_option maxRecDepth 100000 in
theorem w_X9_firstRedex_0 {X : Nat × (Nat → Int32)} {al : Bool} {n : Nat} {Q : Option Value → Mem → Prop} {J : Nat → List Value → Mem → Prop} (hJ : ∀ c l M, J c l M → PW_X9_firstRedex X al n Q c l M) {R : Int32 → Mem → Prop} (hR : ∀ v M, R v M → Q (some (.int v)) M) {a0 : Nat} {M : Mem} (h : T_X9_firstRedex_0 J R False n a0 M) : AW X (RX9, cX9_firstRedex, 2, (some .int), false, al, n) 0 0 0 [(0, .ref a0)] [] M Q := by
  unfold T_X9_firstRedex_0 at h
  refine a_iconst (v := 0) dX9_firstRedex_0 (by decide) ?_
  refine a_istore_n dX9_firstRedex_1 rfl (Nat.le_of_ble_eq_true rfl) (lv2 := [(1, .int 0), (0, .ref a0)]) rfl ?_
  exact a_lv (lv2 := [(0, .ref a0), (1, .int 0)]) (fa_cons rfl (fa_cons rfl fa_nil)) (hJ _ _ _ h)
set_option maxHeartbeats 4000000 in
set_option maxRecDepth 100000 in
noncomputable def T_X9_firstRedex_2.{u} {α : Sort u} (J : Nat → List Value → Mem → α) (R : Int32 → Mem → α) (N : α) (n : Nat) (a0 : Nat) (x1 : Int32) (M : Mem) : α := gd (fO M a0 9) N (if (M.2.2.1 a0 2) ≤ x1 then R (-1) M else bnd2 (cal n (fun n => f_X9_redexAt n a0 x1 M)) N (fun v4 M5 => if v4 = 0 then J 2 [.ref a0, .int (x1 + 1)] M5 else R x1 M5))
set_option maxHeartbeats 4000000 in
set_option maxRecDepth 100000 in
theorem n_X9_firstRedex_2.{u, v} {α : Sort u} {β : Sort v} (h : α → β) (J : Nat → List Value → Mem → α) (R : Int32 → Mem → α) (N : α) (n : Nat) (a0 : Nat) (x1 : Int32) (M : Mem) : h (T_X9_firstRedex_2 J R N n a0 x1 M) = T_X9_firstRedex_2 (fun c l M => h (J c l M)) (fun v M => h (R v M)) (h N) n a0 x1 M := by
  simp only [T_X9_firstRedex_2, nat_ite h, nat_gd h, nat_bnd h, nat_bnd2 h]
set_option maxHeartbeats 4000000 in
set_option maxRecDepth 100000 in
theorem w_X9_firstRedex_2 {X : Nat × (Nat → Int32)} {al : Bool} {n : Nat} {Q : Option Value → Mem → Prop} {J : Nat → List Value → Mem → Prop} (hJ : ∀ c l M, J c l M → PW_X9_firstRedex X al n Q c l M) {R : Int32 → Mem → Prop} (hR : ∀ v M, R v M → Q (some (.int v)) M) {a0 : Nat} {x1 : Int32} {M : Mem} (h : T_X9_firstRedex_2 J R False n a0 x1 M) : AW X (RX9, cX9_firstRedex, 2, (some .int), false, al, n) 0 0 2 [(0, .ref a0), (1, .int x1)] [] M Q := by
  unfold T_X9_firstRedex_2 at h
  refine a_iload_n dX9_firstRedex_2 rfl rfl ?_
  refine a_aload_n dX9_firstRedex_3 rfl rfl ?_
  obtain ⟨⟨ga1, gs2⟩, h⟩ := gd_t h
  refine a_get (v := .int (M.2.2.1 a0 2)) dX9_firstRedex_4 fl_9_18 ga1 gs2 rfl ?_
  refine a_icmp_ge 26 dX9_firstRedex_7 (by decide) (fun c3 => ?_) (fun c3 => ?_)
  · replace h := ite_t c3 h
    refine a_iconst (v := -1) dX9_firstRedex_26 (by decide) ?_
    exact a_iret dX9_firstRedex_27 rfl (hR _ _ h)
  · replace h := ite_f c3 h
    refine a_aload_n dX9_firstRedex_10 rfl rfl ?_
    refine a_iload_n dX9_firstRedex_11 rfl rfl ?_
    obtain ⟨v4, M5, e6, h⟩ := bnd2_t h
    obtain ⟨n7, en8, e6⟩ := cal_t e6
    refine e_callV (As := [.int x1]) (st := []) (a := a0) (ci := 9) false dX9_firstRedex_12 mw_X9_redexAt (Or.inl ⟨rfl, ml_X9_39⟩) im_X9_redexAt se_X9_redexAt (by decide) ga1 gs2 rfl (Nat.le_of_ble_eq_true rfl) en8 (s_X9_redexAt e6) ?_
    refine a_if_eq 20 dX9_firstRedex_15 (by decide) (fun c9 => ?_) (fun c9 => ?_)
    · replace h := ite_t c9 h
      refine a_iinc (v := (x1 + 1)) dX9_firstRedex_20 rfl (by first | rfl | decide) (Nat.le_of_ble_eq_true rfl) (lv2 := [(1, .int (x1 + 1)), (0, .ref a0)]) rfl ?_
      refine a_goto 2 dX9_firstRedex_23 (by decide) ?_
      exact a_lv (lv2 := [(0, .ref a0), (1, .int (x1 + 1))]) (fa_cons rfl (fa_cons rfl fa_nil)) (hJ _ _ _ h)
    · replace h := ite_f c9 h
      refine a_iload_n dX9_firstRedex_18 rfl rfl ?_
      exact a_iret dX9_firstRedex_19 rfl (hR _ _ h)
set_option maxHeartbeats 4000000 in
set_option maxRecDepth 100000 in
noncomputable def st_X9_firstRedex (n : Nat) (s : Sg) : Option (Sg ⊕ (Int32 × Mem)) := if s.1 = 0 then vR s.2.1 none (fun a0 t => vE t none (T_X9_firstRedex_0 (fun c l M => some (.inl (c, l, M))) (fun v M => some (.inr (v, M))) none n a0 s.2.2)) else if s.1 = 2 then vR s.2.1 none (fun a0 t => vI t none (fun x1 t => vE t none (T_X9_firstRedex_2 (fun c l M => some (.inl (c, l, M))) (fun v M => some (.inr (v, M))) none n a0 x1 s.2.2))) else none
noncomputable abbrev g_X9_firstRedex_0 (n : Nat) (a0 : Nat) (M : Mem) : Option (Int32 × Mem) := lp (st_X9_firstRedex n) (0, [.ref a0], M)
set_option maxHeartbeats 4000000 in
set_option maxRecDepth 100000 in
theorem ge_X9_firstRedex_0 (n : Nat) (a0 : Nat) (M : Mem) : g_X9_firstRedex_0 n a0 M = T_X9_firstRedex_0 (fun c l M => lp (st_X9_firstRedex n) (c, l, M)) (fun v M => some (v, M)) none n a0 M := (lp_eq _ _).trans (n_X9_firstRedex_0 (lpK (st_X9_firstRedex n)) (fun c l M => some (.inl (c, l, M))) (fun v M => some (.inr (v, M))) none n a0 M)
noncomputable abbrev g_X9_firstRedex_2 (n : Nat) (a0 : Nat) (x1 : Int32) (M : Mem) : Option (Int32 × Mem) := lp (st_X9_firstRedex n) (2, [.ref a0, .int x1], M)
set_option maxHeartbeats 4000000 in
set_option maxRecDepth 100000 in
theorem ge_X9_firstRedex_2 (n : Nat) (a0 : Nat) (x1 : Int32) (M : Mem) : g_X9_firstRedex_2 n a0 x1 M = T_X9_firstRedex_2 (fun c l M => lp (st_X9_firstRedex n) (c, l, M)) (fun v M => some (v, M)) none n a0 x1 M := (lp_eq _ _).trans (n_X9_firstRedex_2 (lpK (st_X9_firstRedex n)) (fun c l M => some (.inl (c, l, M))) (fun v M => some (.inr (v, M))) none n a0 x1 M)
noncomputable def b_X9_firstRedex (n : Nat) (a0 : Nat) (M : Mem) : Option (Int32 × Mem) := g_X9_firstRedex_0 n a0 M
set_option maxHeartbeats 4000000 in
set_option maxRecDepth 100000 in
theorem sb_X9_firstRedex {X : Nat × (Nat → Int32)} {al : Bool} {n : Nat} {a0 : Nat} {M : Mem} {v : Int32} {M1 : Mem} (h : b_X9_firstRedex n a0 M = some (v, M1)) : AE yX9_firstRedex cX9_firstRedex 2 (some .int) al n X [.ref a0] M (some (.int v)) M1 := by
  refine AM.of false (by decide +kernel) (by intro h; cases h) (Nat.le_of_ble_eq_true rfl) ?_
  refine lp_snd (P := fun s r => PW_X9_firstRedex X al n (fun v M2 => v = (some (.int r.1)) ∧ M2 = r.2) s.1 s.2.1 s.2.2) ?_ h
  clear h
  rintro ⟨c, l, M⟩ r h
  unfold st_X9_firstRedex at h
  rcases ite_p h with ⟨e, h⟩ | ⟨e, h⟩
  · replace e : c = 0 := e
    subst e
    obtain ⟨a0, tt0, e, h⟩ := vR_p id h
    replace e : l = _ := e
    subst e
    obtain ⟨e, h⟩ := vE_p id h
    replace e : tt0 = [] := e
    subst e
    exact w_X9_firstRedex_0 (J := fun c l M => PW_X9_firstRedex X al n (fun v M2 => v = (some (.int r.1)) ∧ M2 = r.2) c l M) (R := fun v M => (v, M) = r) (fun _ _ _ h => h) (fun v M h => by cases h; exact ⟨rfl, rfl⟩) ((n_X9_firstRedex_0 (lpP (fun (s : Sg) (r : Int32 × Mem) => PW_X9_firstRedex X al n (fun v M2 => v = (some (.int r.1)) ∧ M2 = r.2) s.1 s.2.1 s.2.2) r) (fun c l M => some (.inl (c, l, M))) (fun v M => some (.inr (v, M))) none n a0 M).mp h)
  rcases ite_p h with ⟨e, h⟩ | ⟨e, h⟩
  · replace e : c = 2 := e
    subst e
    obtain ⟨a0, tt0, e, h⟩ := vR_p id h
    replace e : l = _ := e
    subst e
    obtain ⟨x1, tt1, e, h⟩ := vI_p id h
    replace e : tt0 = _ := e
    subst e
    obtain ⟨e, h⟩ := vE_p id h
    replace e : tt1 = [] := e
    subst e
    exact w_X9_firstRedex_2 (J := fun c l M => PW_X9_firstRedex X al n (fun v M2 => v = (some (.int r.1)) ∧ M2 = r.2) c l M) (R := fun v M => (v, M) = r) (fun _ _ _ h => h) (fun v M h => by cases h; exact ⟨rfl, rfl⟩) ((n_X9_firstRedex_2 (lpP (fun (s : Sg) (r : Int32 × Mem) => PW_X9_firstRedex X al n (fun v M2 => v = (some (.int r.1)) ∧ M2 = r.2) s.1 s.2.1 s.2.2) r) (fun c l M => some (.inl (c, l, M))) (fun v M => some (.inr (v, M))) none n a0 x1 M).mp h)
  · exact h.elim

noncomputable abbrev f_X9_firstRedex := b_X9_firstRedex
theorem s_X9_firstRedex {X : Nat × (Nat → Int32)} {al : Bool} {n : Nat} {a0 : Nat} {M : Mem} {v : Int32} {M1 : Mem} (h : f_X9_firstRedex n a0 M = some (v, M1)) : AE yX9_firstRedex cX9_firstRedex 2 (some .int) al n X [.ref a0] M (some (.int v)) M1 := sb_X9_firstRedex h
def ix_X7_copyDeeper (c : Nat) : List Nat := if c = 0 then [0, 1, 2, 3, 4, 5] else if c = 3 then [0, 1, 3, 4, 5, 6] else if c = 57 then [0, 1, 3, 4, 5, 6, 7] else []
def PW_X7_copyDeeper (X : Nat × (Nat → Int32)) (al : Bool) (n : Nat) (Q : Option Value → Mem → Prop) (c : Nat) (l : List Value) (M : Mem) : Prop := AW X (RX7, cX7_copyDeeper, 9, none, false, al, n) 0 0 c (List.zip (ix_X7_copyDeeper c) l) (l.drop (ix_X7_copyDeeper c).length) M Q
set_option maxHeartbeats 4000000 in
set_option maxRecDepth 100000 in
noncomputable def T_X7_copyDeeper_0.{u} {α : Sort u} (J : Nat → List Value → Mem → α) (R : Unit → Mem → α) (N : α) (n : Nat) (a0 : Nat) (a1 : Nat) (x2 : Int32) (x3 : Int32) (x4 : Int32) (x5 : Int32) (M : Mem) : α := J 3 [.ref a0, .ref a1, .int x3, .int x4, .int x5, .int x2] M
set_option maxHeartbeats 4000000 in
set_option maxRecDepth 100000 in
theorem n_X7_copyDeeper_0.{u, v} {α : Sort u} {β : Sort v} (h : α → β) (J : Nat → List Value → Mem → α) (R : Unit → Mem → α) (N : α) (n : Nat) (a0 : Nat) (a1 : Nat) (x2 : Int32) (x3 : Int32) (x4 : Int32) (x5 : Int32) (M : Mem) : h (T_X7_copyDeeper_0 J R N n a0 a1 x2 x3 x4 x5 M) = T_X7_copyDeeper_0 (fun c l M => h (J c l M)) (fun v M => h (R v M)) (h N) n a0 a1 x2 x3 x4 x5 M := by
  simp only [T_X7_copyDeeper_0, nat_ite h, nat_gd h, nat_bnd h, nat_bnd2 h]
set_option maxHeartbeats 4000000 in
set_option maxRecDepth 100000 in
theorem w_X7_copyDeeper_0 {X : Nat × (Nat → Int32)} {al : Bool} {n : Nat} {Q : Option Value → Mem → Prop} {J : Nat → List Value → Mem → Prop} (hJ : ∀ c l M, J c l M → PW_X7_copyDeeper X al n Q c l M) {R : Unit → Mem → Prop} (hR : ∀ v M, R v M → Q none M) {a0 : Nat} {a1 : Nat} {x2 : Int32} {x3 : Int32} {x4 : Int32} {x5 : Int32} {M : Mem} (h : T_X7_copyDeeper_0 J R False n a0 a1 x2 x3 x4 x5 M) : AW X (RX7, cX7_copyDeeper, 9, none, false, al, n) 0 0 0 [(0, .ref a0), (1, .ref a1), (2, .int x2), (3, .int x3), (4, .int x4), (5, .int x5)] [] M Q := by
  unfold T_X7_copyDeeper_0 at h
  refine a_iload_n dX7_copyDeeper_0 rfl rfl ?_
  refine a_istore dX7_copyDeeper_1 (Nat.le_of_ble_eq_true rfl) (lv2 := [(6, .int x2), (0, .ref a0), (1, .ref a1), (2, .int x2), (3, .int x3), (4, .int x4), (5, .int x5)]) rfl ?_
  exact a_lv (lv2 := [(0, .ref a0), (1, .ref a1), (3, .int x3), (4, .int x4), (5, .int x5), (6, .int x2)]) (fa_cons rfl (fa_cons rfl (fa_cons rfl (fa_cons rfl (fa_cons rfl (fa_cons rfl fa_nil)))))) (hJ _ _ _ h)
set_option maxHeartbeats 4000000 in
set_option maxRecDepth 100000 in
noncomputable def T_X7_copyDeeper_3.{u} {α : Sort u} (J : Nat → List Value → Mem → α) (R : Unit → Mem → α) (N : α) (n : Nat) (a0 : Nat) (a1 : Nat) (x3 : Int32) (x4 : Int32) (x5 : Int32) (x6 : Int32) (M : Mem) : α := if x3 ≤ x6 then R () M else if 200 ≤ x6 then R () M else gd (fO M a0 7) N (bnd (M.2.2.2.2 a0 2) N (fun r5 => gd (fO M r5 9) N (if (M.2.2.1 r5 3) = 0 then gd (fO M a1 9) N (bnd2 (cal n (fun n => f_X9_argAt n a1 x6 M)) N (fun v12 M13 => gd (fO M13 a1 9) N (bnd2 (cal n (fun n => f_X9_opAt n a1 x6 M13)) N (fun v19 M20 => if v19 = 1 then if v12 < x4 then J 57 [.ref a0, .ref a1, .int x3, .int x4, .int x5, .int x6, .int v12, .int 0] M20 else J 57 [.ref a0, .ref a1, .int x3, .int x4, .int x5, .int x6, .int v12, .int 1] M20 else J 57 [.ref a0, .ref a1, .int x3, .int x4, .int x5, .int x6, .int v12, .int 0] M20)))) else R () M)))
set_option maxHeartbeats 4000000 in
set_option maxRecDepth 100000 in
theorem n_X7_copyDeeper_3.{u, v} {α : Sort u} {β : Sort v} (h : α → β) (J : Nat → List Value → Mem → α) (R : Unit → Mem → α) (N : α) (n : Nat) (a0 : Nat) (a1 : Nat) (x3 : Int32) (x4 : Int32) (x5 : Int32) (x6 : Int32) (M : Mem) : h (T_X7_copyDeeper_3 J R N n a0 a1 x3 x4 x5 x6 M) = T_X7_copyDeeper_3 (fun c l M => h (J c l M)) (fun v M => h (R v M)) (h N) n a0 a1 x3 x4 x5 x6 M := by
  simp only [T_X7_copyDeeper_3, nat_ite h, nat_gd h, nat_bnd h, nat_bnd2 h]
set_option maxHeartbeats 4000000 in
set_option maxRecDepth 100000 in
theorem w_X7_copyDeeper_3 {X : Nat × (Nat → Int32)} {al : Bool} {n : Nat} {Q : Option Value → Mem → Prop} {J : Nat → List Value → Mem → Prop} (hJ : ∀ c l M, J c l M → PW_X7_copyDeeper X al n Q c l M) {R : Unit → Mem → Prop} (hR : ∀ v M, R v M → Q none M) {a0 : Nat} {a1 : Nat} {x3 : Int32} {x4 : Int32} {x5 : Int32} {x6 : Int32} {M : Mem} (h : T_X7_copyDeeper_3 J R False n a0 a1 x3 x4 x5 x6 M) : AW X (RX7, cX7_copyDeeper, 9, none, false, al, n) 0 0 3 [(0, .ref a0), (1, .ref a1), (3, .int x3), (4, .int x4), (5, .int x5), (6, .int x6)] [] M Q := by
  unfold T_X7_copyDeeper_3 at h
  refine a_iload dX7_copyDeeper_3 rfl ?_
  refine a_iload_n dX7_copyDeeper_5 rfl rfl ?_
  refine a_icmp_ge 93 dX7_copyDeeper_6 (by decide) (fun c1 => ?_) (fun c1 => ?_)
  · replace h := ite_t c1 h
    exact a_vret dX7_copyDeeper_93 rfl (hR _ _ h)
  · replace h := ite_f c1 h
    refine a_iload dX7_copyDeeper_9 rfl ?_
    refine a_sipush (v := 200) dX7_copyDeeper_11 (by decide) ?_
    refine a_icmp_ge 93 dX7_copyDeeper_14 (by decide) (fun c2 => ?_) (fun c2 => ?_)
    · replace h := ite_t c2 h
      exact a_vret dX7_copyDeeper_93 rfl (hR _ _ h)
    · replace h := ite_f c2 h
      refine a_aload_n dX7_copyDeeper_17 rfl rfl ?_
      obtain ⟨⟨ga3, gs4⟩, h⟩ := gd_t h
      obtain ⟨r5, e6, h⟩ := bnd_t h
      refine a_get (v := .ref r5) dX7_copyDeeper_18 fl_7_18 ga3 gs4 (gvR e6 rfl) ?_
      obtain ⟨⟨ga7, gs8⟩, h⟩ := gd_t h
      refine a_getN (v := .int (M.2.2.1 r5 3)) dX7_copyDeeper_21 fn_7_65 ga7 gs8 rfl ?_
      refine a_if_ne 93 dX7_copyDeeper_24 (by decide) (fun c9 => ?_) (fun c9 => ?_)
      · replace h := ite_f c9 h
        exact a_vret dX7_copyDeeper_93 rfl (hR _ _ h)
      · replace h := ite_t c9 h
        refine a_aload_n dX7_copyDeeper_27 rfl rfl ?_
        refine a_iload dX7_copyDeeper_28 rfl ?_
        obtain ⟨⟨ga10, gs11⟩, h⟩ := gd_t h
        obtain ⟨v12, M13, e14, h⟩ := bnd2_t h
        obtain ⟨n15, en16, e14⟩ := cal_t e14
        refine e_callV (As := [.int x6]) (st := []) (a := a1) (ci := 9) false dX7_copyDeeper_30 mw_X9_argAt (Or.inl ⟨rfl, ml_X7_87⟩) im_X9_argAt se_X9_argAt (by decide) ga10 gs11 rfl (Nat.le_of_ble_eq_true rfl) en16 (s_X9_argAt e14) ?_
        refine a_istore dX7_copyDeeper_33 (Nat.le_of_ble_eq_true rfl) (lv2 := [(7, .int v12), (0, .ref a0), (1, .ref a1), (3, .int x3), (4, .int x4), (5, .int x5), (6, .int x6)]) rfl ?_
        refine a_aload_n dX7_copyDeeper_35 rfl rfl ?_
        refine a_iload dX7_copyDeeper_36 rfl ?_
        obtain ⟨⟨ga17, gs18⟩, h⟩ := gd_t h
        obtain ⟨v19, M20, e21, h⟩ := bnd2_t h
        obtain ⟨n22, en23, e21⟩ := cal_t e21
        refine e_callV (As := [.int x6]) (st := []) (a := a1) (ci := 9) false dX7_copyDeeper_38 mw_X9_opAt (Or.inl ⟨rfl, ml_X7_90⟩) im_X9_opAt se_X9_opAt (by decide) ga17 gs18 rfl (Nat.le_of_ble_eq_true rfl) en23 (s_X9_opAt e21) ?_
        refine a_iconst (v := 1) dX7_copyDeeper_41 (by decide) ?_
        refine a_icmp_ne 56 dX7_copyDeeper_42 (by decide) (fun c24 => ?_) (fun c24 => ?_)
        · replace h := ite_f c24 h
          refine a_iconst (v := 0) dX7_copyDeeper_56 (by decide) ?_
          exact a_lv (lv2 := [(0, .ref a0), (1, .ref a1), (3, .int x3), (4, .int x4), (5, .int x5), (6, .int x6), (7, .int v12)]) (fa_cons rfl (fa_cons rfl (fa_cons rfl (fa_cons rfl (fa_cons rfl (fa_cons rfl (fa_cons rfl fa_nil))))))) (hJ _ _ _ h)
        · replace h := ite_t c24 h
          refine a_iload dX7_copyDeeper_45 rfl ?_
          refine a_iload dX7_copyDeeper_47 rfl ?_
          refine a_icmp_lt 56 dX7_copyDeeper_49 (by decide) (fun c25 => ?_) (fun c25 => ?_)
          · replace h := ite_t c25 h
            refine a_iconst (v := 0) dX7_copyDeeper_56 (by decide) ?_
            exact a_lv (lv2 := [(0, .ref a0), (1, .ref a1), (3, .int x3), (4, .int x4), (5, .int x5), (6, .int x6), (7, .int v12)]) (fa_cons rfl (fa_cons rfl (fa_cons rfl (fa_cons rfl (fa_cons rfl (fa_cons rfl (fa_cons rfl fa_nil))))))) (hJ _ _ _ h)
          · replace h := ite_f c25 h
            refine a_iconst (v := 1) dX7_copyDeeper_52 (by decide) ?_
            refine a_goto 57 dX7_copyDeeper_53 (by decide) ?_
            exact a_lv (lv2 := [(0, .ref a0), (1, .ref a1), (3, .int x3), (4, .int x4), (5, .int x5), (6, .int x6), (7, .int v12)]) (fa_cons rfl (fa_cons rfl (fa_cons rfl (fa_cons rfl (fa_cons rfl (fa_cons rfl (fa_cons rfl fa_nil))))))) (hJ _ _ _ h)
set_option maxHeartbeats 4000000 in
set_option maxRecDepth 100000 in
noncomputable def T_X7_copyDeeper_57.{u} {α : Sort u} (J : Nat → List Value → Mem → α) (R : Unit → Mem → α) (N : α) (n : Nat) (a0 : Nat) (a1 : Nat) (x3 : Int32) (x4 : Int32) (x5 : Int32) (x6 : Int32) (x7 : Int32) (xs0 : Int32) (M : Mem) : α := gd (fO M a0 7) N (bnd (M.2.2.2.2 a0 2) N (fun r3 => gd (fO M a1 9) N (bnd2 (cal n (fun n => f_X9_opAt n a1 x6 M)) N (fun v7 M8 => if xs0 = 0 then gd (fO M8 r3 9) N (bnd2 (cal n (fun n => f_X9_add n r3 v7 x7 M8)) N (fun _ M15 => J 3 [.ref a0, .ref a1, .int x3, .int x4, .int x5, .int (x6 + 1)] M15)) else gd (fO M8 r3 9) N (bnd2 (cal n (fun n => f_X9_add n r3 v7 (x7 + x5) M8)) N (fun _ M21 => J 3 [.ref a0, .ref a1, .int x3, .int x4, .int x5, .int (x6 + 1)] M21))))))
set_option maxHeartbeats 4000000 in
set_option maxRecDepth 100000 in
theorem n_X7_copyDeeper_57.{u, v} {α : Sort u} {β : Sort v} (h : α → β) (J : Nat → List Value → Mem → α) (R : Unit → Mem → α) (N : α) (n : Nat) (a0 : Nat) (a1 : Nat) (x3 : Int32) (x4 : Int32) (x5 : Int32) (x6 : Int32) (x7 : Int32) (xs0 : Int32) (M : Mem) : h (T_X7_copyDeeper_57 J R N n a0 a1 x3 x4 x5 x6 x7 xs0 M) = T_X7_copyDeeper_57 (fun c l M => h (J c l M)) (fun v M => h (R v M)) (h N) n a0 a1 x3 x4 x5 x6 x7 xs0 M := by
  simp only [T_X7_copyDeeper_57, nat_ite h, nat_gd h, nat_bnd h, nat_bnd2 h]
set_option maxHeartbeats 4000000 in
set_option maxRecDepth 100000 in
theorem w_X7_copyDeeper_57 {X : Nat × (Nat → Int32)} {al : Bool} {n : Nat} {Q : Option Value → Mem → Prop} {J : Nat → List Value → Mem → Prop} (hJ : ∀ c l M, J c l M → PW_X7_copyDeeper X al n Q c l M) {R : Unit → Mem → Prop} (hR : ∀ v M, R v M → Q none M) {a0 : Nat} {a1 : Nat} {x3 : Int32} {x4 : Int32} {x5 : Int32} {x6 : Int32} {x7 : Int32} {xs0 : Int32} {M : Mem} (h : T_X7_copyDeeper_57 J R False n a0 a1 x3 x4 x5 x6 x7 xs0 M) : AW X (RX7, cX7_copyDeeper, 9, none, false, al, n) 0 0 57 [(0, .ref a0), (1, .ref a1), (3, .int x3), (4, .int x4), (5, .int x5), (6, .int x6), (7, .int x7)] [.int xs0] M Q := by
  unfold T_X7_copyDeeper_57 at h
  refine a_istore dX7_copyDeeper_57 (Nat.le_of_ble_eq_true rfl) (lv2 := [(8, .int xs0), (0, .ref a0), (1, .ref a1), (3, .int x3), (4, .int x4), (5, .int x5), (6, .int x6), (7, .int x7)]) rfl ?_
  refine a_aload_n dX7_copyDeeper_59 rfl rfl ?_
  obtain ⟨⟨ga1, gs2⟩, h⟩ := gd_t h
  obtain ⟨r3, e4, h⟩ := bnd_t h
  refine a_get (v := .ref r3) dX7_copyDeeper_60 fl_7_18 ga1 gs2 (gvR e4 rfl) ?_
  refine a_aload_n dX7_copyDeeper_63 rfl rfl ?_
  refine a_iload dX7_copyDeeper_64 rfl ?_
  obtain ⟨⟨ga5, gs6⟩, h⟩ := gd_t h
  obtain ⟨v7, M8, e9, h⟩ := bnd2_t h
  obtain ⟨n10, en11, e9⟩ := cal_t e9
  refine e_callV (As := [.int x6]) (st := [.ref r3]) (a := a1) (ci := 9) false dX7_copyDeeper_66 mw_X9_opAt (Or.inl ⟨rfl, ml_X7_90⟩) im_X9_opAt se_X9_opAt (by decide) ga5 gs6 rfl (Nat.le_of_ble_eq_true rfl) en11 (s_X9_opAt e9) ?_
  refine a_iload dX7_copyDeeper_69 rfl ?_
  refine a_if_eq 82 dX7_copyDeeper_71 (by decide) (fun c12 => ?_) (fun c12 => ?_)
  · replace h := ite_t c12 h
    refine a_iload dX7_copyDeeper_82 rfl ?_
    obtain ⟨⟨ga13, gs14⟩, h⟩ := gd_t h
    obtain ⟨_, M15, e16, h⟩ := bnd2_t h
    obtain ⟨n17, en18, e16⟩ := cal_t e16
    refine e_callV (As := [.int v7, .int x7]) (st := []) (a := r3) (ci := 9) false dX7_copyDeeper_84 mw_X9_add (Or.inl ⟨rfl, ml_X7_80⟩) im_X9_add se_X9_add (by decide) ga13 gs14 rfl (Nat.le_of_ble_eq_true rfl) en18 (s_X9_add e16) ?_
    refine a_iinc (v := (x6 + 1)) dX7_copyDeeper_87 rfl (by first | rfl | decide) (Nat.le_of_ble_eq_true rfl) (lv2 := [(6, .int (x6 + 1)), (8, .int xs0), (0, .ref a0), (1, .ref a1), (3, .int x3), (4, .int x4), (5, .int x5), (7, .int x7)]) rfl ?_
    refine a_goto 3 dX7_copyDeeper_90 (by decide) ?_
    exact a_lv (lv2 := [(0, .ref a0), (1, .ref a1), (3, .int x3), (4, .int x4), (5, .int x5), (6, .int (x6 + 1))]) (fa_cons rfl (fa_cons rfl (fa_cons rfl (fa_cons rfl (fa_cons rfl (fa_cons rfl fa_nil)))))) (hJ _ _ _ h)
  · replace h := ite_f c12 h
    refine a_iload dX7_copyDeeper_74 rfl ?_
    refine a_iload dX7_copyDeeper_76 rfl ?_
    refine a_iadd dX7_copyDeeper_78 ?_
    refine a_goto 84 dX7_copyDeeper_79 (by decide) ?_
    obtain ⟨⟨ga19, gs20⟩, h⟩ := gd_t h
    obtain ⟨_, M21, e22, h⟩ := bnd2_t h
    obtain ⟨n23, en24, e22⟩ := cal_t e22
    refine e_callV (As := [.int v7, .int (x7 + x5)]) (st := []) (a := r3) (ci := 9) false dX7_copyDeeper_84 mw_X9_add (Or.inl ⟨rfl, ml_X7_80⟩) im_X9_add se_X9_add (by decide) ga19 gs20 rfl (Nat.le_of_ble_eq_true rfl) en24 (s_X9_add e22) ?_
    refine a_iinc (v := (x6 + 1)) dX7_copyDeeper_87 rfl (by first | rfl | decide) (Nat.le_of_ble_eq_true rfl) (lv2 := [(6, .int (x6 + 1)), (8, .int xs0), (0, .ref a0), (1, .ref a1), (3, .int x3), (4, .int x4), (5, .int x5), (7, .int x7)]) rfl ?_
    refine a_goto 3 dX7_copyDeeper_90 (by decide) ?_
    exact a_lv (lv2 := [(0, .ref a0), (1, .ref a1), (3, .int x3), (4, .int x4), (5, .int x5), (6, .int (x6 + 1))]) (fa_cons rfl (fa_cons rfl (fa_cons rfl (fa_cons rfl (fa_cons rfl (fa_cons rfl fa_nil)))))) (hJ _ _ _ h)
set_option maxHeartbeats 4000000 in
set_option maxRecDepth 100000 in
noncomputable def st_X7_copyDeeper (n : Nat) (s : Sg) : Option (Sg ⊕ (Unit × Mem)) := if s.1 = 0 then vR s.2.1 none (fun a0 t => vR t none (fun a1 t => vI t none (fun x2 t => vI t none (fun x3 t => vI t none (fun x4 t => vI t none (fun x5 t => vE t none (T_X7_copyDeeper_0 (fun c l M => some (.inl (c, l, M))) (fun v M => some (.inr (v, M))) none n a0 a1 x2 x3 x4 x5 s.2.2))))))) else if s.1 = 3 then vR s.2.1 none (fun a0 t => vR t none (fun a1 t => vI t none (fun x3 t => vI t none (fun x4 t => vI t none (fun x5 t => vI t none (fun x6 t => vE t none (T_X7_copyDeeper_3 (fun c l M => some (.inl (c, l, M))) (fun v M => some (.inr (v, M))) none n a0 a1 x3 x4 x5 x6 s.2.2))))))) else if s.1 = 57 then vR s.2.1 none (fun a0 t => vR t none (fun a1 t => vI t none (fun x3 t => vI t none (fun x4 t => vI t none (fun x5 t => vI t none (fun x6 t => vI t none (fun x7 t => vI t none (fun xs0 t => vE t none (T_X7_copyDeeper_57 (fun c l M => some (.inl (c, l, M))) (fun v M => some (.inr (v, M))) none n a0 a1 x3 x4 x5 x6 x7 xs0 s.2.2))))))))) else none
noncomputable abbrev g_X7_copyDeeper_0 (n : Nat) (a0 : Nat) (a1 : Nat) (x2 : Int32) (x3 : Int32) (x4 : Int32) (x5 : Int32) (M : Mem) : Option (Unit × Mem) := lp (st_X7_copyDeeper n) (0, [.ref a0, .ref a1, .int x2, .int x3, .int x4, .int x5], M)
set_option maxHeartbeats 4000000 in
set_option maxRecDepth 100000 in
theorem ge_X7_copyDeeper_0 (n : Nat) (a0 : Nat) (a1 : Nat) (x2 : Int32) (x3 : Int32) (x4 : Int32) (x5 : Int32) (M : Mem) : g_X7_copyDeeper_0 n a0 a1 x2 x3 x4 x5 M = T_X7_copyDeeper_0 (fun c l M => lp (st_X7_copyDeeper n) (c, l, M)) (fun v M => some (v, M)) none n a0 a1 x2 x3 x4 x5 M := (lp_eq _ _).trans (n_X7_copyDeeper_0 (lpK (st_X7_copyDeeper n)) (fun c l M => some (.inl (c, l, M))) (fun v M => some (.inr (v, M))) none n a0 a1 x2 x3 x4 x5 M)
noncomputable abbrev g_X7_copyDeeper_3 (n : Nat) (a0 : Nat) (a1 : Nat) (x3 : Int32) (x4 : Int32) (x5 : Int32) (x6 : Int32) (M : Mem) : Option (Unit × Mem) := lp (st_X7_copyDeeper n) (3, [.ref a0, .ref a1, .int x3, .int x4, .int x5, .int x6], M)
set_option maxHeartbeats 4000000 in
set_option maxRecDepth 100000 in
theorem ge_X7_copyDeeper_3 (n : Nat) (a0 : Nat) (a1 : Nat) (x3 : Int32) (x4 : Int32) (x5 : Int32) (x6 : Int32) (M : Mem) : g_X7_copyDeeper_3 n a0 a1 x3 x4 x5 x6 M = T_X7_copyDeeper_3 (fun c l M => lp (st_X7_copyDeeper n) (c, l, M)) (fun v M => some (v, M)) none n a0 a1 x3 x4 x5 x6 M := (lp_eq _ _).trans (n_X7_copyDeeper_3 (lpK (st_X7_copyDeeper n)) (fun c l M => some (.inl (c, l, M))) (fun v M => some (.inr (v, M))) none n a0 a1 x3 x4 x5 x6 M)
noncomputable abbrev g_X7_copyDeeper_57 (n : Nat) (a0 : Nat) (a1 : Nat) (x3 : Int32) (x4 : Int32) (x5 : Int32) (x6 : Int32) (x7 : Int32) (xs0 : Int32) (M : Mem) : Option (Unit × Mem) := lp (st_X7_copyDeeper n) (57, [.ref a0, .ref a1, .int x3, .int x4, .int x5, .int x6, .int x7, .int xs0], M)
set_option maxHeartbeats 4000000 in
set_option maxRecDepth 100000 in
theorem ge_X7_copyDeeper_57 (n : Nat) (a0 : Nat) (a1 : Nat) (x3 : Int32) (x4 : Int32) (x5 : Int32) (x6 : Int32) (x7 : Int32) (xs0 : Int32) (M : Mem) : g_X7_copyDeeper_57 n a0 a1 x3 x4 x5 x6 x7 xs0 M = T_X7_copyDeeper_57 (fun c l M => lp (st_X7_copyDeeper n) (c, l, M)) (fun v M => some (v, M)) none n a0 a1 x3 x4 x5 x6 x7 xs0 M := (lp_eq _ _).trans (n_X7_copyDeeper_57 (lpK (st_X7_copyDeeper n)) (fun c l M => some (.inl (c, l, M))) (fun v M => some (.inr (v, M))) none n a0 a1 x3 x4 x5 x6 x7 xs0 M)
noncomputable def b_X7_copyDeeper (n : Nat) (a0 : Nat) (a1 : Nat) (x2 : Int32) (x3 : Int32) (x4 : Int32) (x5 : Int32) (M : Mem) : Option (Unit × Mem) := g_X7_copyDeeper_0 n a0 a1 x2 x3 x4 x5 M
set_option maxHeartbeats 4000000 in
set_option maxRecDepth 100000 in
theorem sb_X7_copyDeeper {X : Nat × (Nat → Int32)} {al : Bool} {n : Nat} {a0 : Nat} {a1 : Nat} {x2 : Int32} {x3 : Int32} {x4 : Int32} {x5 : Int32} {M : Mem} {v : Unit} {M1 : Mem} (h : b_X7_copyDeeper n a0 a1 x2 x3 x4 x5 M = some (v, M1)) : AE yX7_copyDeeper cX7_copyDeeper 9 none al n X [.ref a0, .ref a1, .int x2, .int x3, .int x4, .int x5] M none M1 := by
  refine AM.of false (by decide +kernel) (by intro h; cases h) (Nat.le_of_ble_eq_true rfl) ?_
  refine lp_snd (P := fun s r => PW_X7_copyDeeper X al n (fun v M2 => v = none ∧ M2 = r.2) s.1 s.2.1 s.2.2) ?_ h
  clear h
  rintro ⟨c, l, M⟩ r h
  unfold st_X7_copyDeeper at h
  rcases ite_p h with ⟨e, h⟩ | ⟨e, h⟩
  · replace e : c = 0 := e
    subst e
    obtain ⟨a0, tt0, e, h⟩ := vR_p id h
    replace e : l = _ := e
    subst e
    obtain ⟨a1, tt1, e, h⟩ := vR_p id h
    replace e : tt0 = _ := e
    subst e
    obtain ⟨x2, tt2, e, h⟩ := vI_p id h
    replace e : tt1 = _ := e
    subst e
    obtain ⟨x3, tt3, e, h⟩ := vI_p id h
    replace e : tt2 = _ := e
    subst e
    obtain ⟨x4, tt4, e, h⟩ := vI_p id h
    replace e : tt3 = _ := e
    subst e
    obtain ⟨x5, tt5, e, h⟩ := vI_p id h
    replace e : tt4 = _ := e
    subst e
    obtain ⟨e, h⟩ := vE_p id h
    replace e : tt5 = [] := e
    subst e
    exact w_X7_copyDeeper_0 (J := fun c l M => PW_X7_copyDeeper X al n (fun v M2 => v = none ∧ M2 = r.2) c l M) (R := fun v M => (v, M) = r) (fun _ _ _ h => h) (fun v M h => by cases h; exact ⟨rfl, rfl⟩) ((n_X7_copyDeeper_0 (lpP (fun (s : Sg) (r : Unit × Mem) => PW_X7_copyDeeper X al n (fun v M2 => v = none ∧ M2 = r.2) s.1 s.2.1 s.2.2) r) (fun c l M => some (.inl (c, l, M))) (fun v M => some (.inr (v, M))) none n a0 a1 x2 x3 x4 x5 M).mp h)
  rcases ite_p h with ⟨e, h⟩ | ⟨e, h⟩
  · replace e : c = 3 := e
    subst e
    obtain ⟨a0, tt0, e, h⟩ := vR_p id h
    replace e : l = _ := e
    subst e
    obtain ⟨a1, tt1, e, h⟩ := vR_p id h
    replace e : tt0 = _ := e
    subst e
    obtain ⟨x3, tt2, e, h⟩ := vI_p id h
    replace e : tt1 = _ := e
    subst e
    obtain ⟨x4, tt3, e, h⟩ := vI_p id h
    replace e : tt2 = _ := e
    subst e
    obtain ⟨x5, tt4, e, h⟩ := vI_p id h
    replace e : tt3 = _ := e
    subst e
    obtain ⟨x6, tt5, e, h⟩ := vI_p id h
    replace e : tt4 = _ := e
    subst e
    obtain ⟨e, h⟩ := vE_p id h
    replace e : tt5 = [] := e
    subst e
    exact w_X7_copyDeeper_3 (J := fun c l M => PW_X7_copyDeeper X al n (fun v M2 => v = none ∧ M2 = r.2) c l M) (R := fun v M => (v, M) = r) (fun _ _ _ h => h) (fun v M h => by cases h; exact ⟨rfl, rfl⟩) ((n_X7_copyDeeper_3 (lpP (fun (s : Sg) (r : Unit × Mem) => PW_X7_copyDeeper X al n (fun v M2 => v = none ∧ M2 = r.2) s.1 s.2.1 s.2.2) r) (fun c l M => some (.inl (c, l, M))) (fun v M => some (.inr (v, M))) none n a0 a1 x3 x4 x5 x6 M).mp h)
  rcases ite_p h with ⟨e, h⟩ | ⟨e, h⟩
  · replace e : c = 57 := e
    subst e
    obtain ⟨a0, tt0, e, h⟩ := vR_p id h
    replace e : l = _ := e
    subst e
    obtain ⟨a1, tt1, e, h⟩ := vR_p id h
    replace e : tt0 = _ := e
    subst e
    obtain ⟨x3, tt2, e, h⟩ := vI_p id h
    replace e : tt1 = _ := e
    subst e
    obtain ⟨x4, tt3, e, h⟩ := vI_p id h
    replace e : tt2 = _ := e
    subst e
    obtain ⟨x5, tt4, e, h⟩ := vI_p id h
    replace e : tt3 = _ := e
    subst e
    obtain ⟨x6, tt5, e, h⟩ := vI_p id h
    replace e : tt4 = _ := e
    subst e
    obtain ⟨x7, tt6, e, h⟩ := vI_p id h
    replace e : tt5 = _ := e
    subst e
    obtain ⟨xs0, tt7, e, h⟩ := vI_p id h
    replace e : tt6 = _ := e
    subst e
    obtain ⟨e, h⟩ := vE_p id h
    replace e : tt7 = [] := e
    subst e
    exact w_X7_copyDeeper_57 (J := fun c l M => PW_X7_copyDeeper X al n (fun v M2 => v = none ∧ M2 = r.2) c l M) (R := fun v M => (v, M) = r) (fun _ _ _ h => h) (fun v M h => by cases h; exact ⟨rfl, rfl⟩) ((n_X7_copyDeeper_57 (lpP (fun (s : Sg) (r : Unit × Mem) => PW_X7_copyDeeper X al n (fun v M2 => v = none ∧ M2 = r.2) s.1 s.2.1 s.2.2) r) (fun c l M => some (.inl (c, l, M))) (fun v M => some (.inr (v, M))) none n a0 a1 x3 x4 x5 x6 x7 xs0 M).mp h)
  · exact h.elim

noncomputable abbrev f_X7_copyDeeper := b_X7_copyDeeper
theorem s_X7_copyDeeper {X : Nat × (Nat → Int32)} {al : Bool} {n : Nat} {a0 : Nat} {a1 : Nat} {x2 : Int32} {x3 : Int32} {x4 : Int32} {x5 : Int32} {M : Mem} {v : Unit} {M1 : Mem} (h : f_X7_copyDeeper n a0 a1 x2 x3 x4 x5 M = some (v, M1)) : AE yX7_copyDeeper cX7_copyDeeper 9 none al n X [.ref a0, .ref a1, .int x2, .int x3, .int x4, .int x5] M none M1 := sb_X7_copyDeeper h
set_option maxHeartbeats 4000000 in
set_option maxRecDepth 100000 in
noncomputable def T_X7_copyPlain_0.{u} {α : Sort u} (R : Unit → Mem → α) (N : α) (n : Nat) (a0 : Nat) (x1 : Int32) (x2 : Int32) (M : Mem) : α := gd (fO M a0 7) N (bnd (M.2.2.2.2 a0 1) N (fun r3 => bnd2 (cal n (fun n => f_X7_copyDeeper n a0 r3 x1 x2 0 0 M)) N (fun _ M5 => R () M5)))
set_option maxHeartbeats 4000000 in
set_option maxRecDepth 100000 in
theorem n_X7_copyPlain_0.{u, v} {α : Sort u} {β : Sort v} (h : α → β) (R : Unit → Mem → α) (N : α) (n : Nat) (a0 : Nat) (x1 : Int32) (x2 : Int32) (M : Mem) : h (T_X7_copyPlain_0 R N n a0 x1 x2 M) = T_X7_copyPlain_0 (fun v M => h (R v M)) (h N) n a0 x1 x2 M := by
  simp only [T_X7_copyPlain_0, nat_ite h, nat_gd h, nat_bnd h, nat_bnd2 h]
set_option maxHeartbeats 4000000 in
set_option maxRecDepth 100000 in
theorem w_X7_copyPlain_0 {X : Nat × (Nat → Int32)} {al : Bool} {n : Nat} {Q : Option Value → Mem → Prop} {R : Unit → Mem → Prop} (hR : ∀ v M, R v M → Q none M) {a0 : Nat} {x1 : Int32} {x2 : Int32} {M : Mem} (h : T_X7_copyPlain_0 R False n a0 x1 x2 M) : AW X (RX7, cX7_copyPlain, 3, none, false, al, n) 0 0 0 [(0, .ref a0), (1, .int x1), (2, .int x2)] [] M Q := by
  unfold T_X7_copyPlain_0 at h
  refine a_aload_n dX7_copyPlain_0 rfl rfl ?_
  refine a_aload_n dX7_copyPlain_1 rfl rfl ?_
  obtain ⟨⟨ga1, gs2⟩, h⟩ := gd_t h
  obtain ⟨r3, e4, h⟩ := bnd_t h
  refine a_get (v := .ref r3) dX7_copyPlain_2 fl_7_12 ga1 gs2 (gvR e4 rfl) ?_
  refine a_iload_n dX7_copyPlain_5 rfl rfl ?_
  refine a_iload_n dX7_copyPlain_6 rfl rfl ?_
  refine a_iconst (v := 0) dX7_copyPlain_7 (by decide) ?_
  refine a_iconst (v := 0) dX7_copyPlain_8 (by decide) ?_
  obtain ⟨_, M5, e6, h⟩ := bnd2_t h
  obtain ⟨n7, en8, e6⟩ := cal_t e6
  refine e_callV (As := [.ref r3, .int x1, .int x2, .int 0, .int 0]) (st := []) (a := a0) (ci := 7) false dX7_copyPlain_9 mw_X7_copyDeeper (Or.inl ⟨rfl, ml_X7_83⟩) im_X7_copyDeeper se_X7_copyDeeper (by decide) ga1 gs2 rfl (Nat.le_of_ble_eq_true rfl) en8 (s_X7_copyDeeper e6) ?_
  exact a_vret dX7_copyPlain_12 rfl (hR _ _ h)
noncomputable def b_X7_copyPlain (n : Nat) (a0 : Nat) (x1 : Int32) (x2 : Int32) (M : Mem) : Option (Unit × Mem) := T_X7_copyPlain_0 (fun v M => some (v, M)) none n a0 x1 x2 M
set_option maxHeartbeats 4000000 in
set_option maxRecDepth 100000 in
theorem sb_X7_copyPlain {X : Nat × (Nat → Int32)} {al : Bool} {n : Nat} {a0 : Nat} {x1 : Int32} {x2 : Int32} {M : Mem} {v : Unit} {M1 : Mem} (h : b_X7_copyPlain n a0 x1 x2 M = some (v, M1)) : AE yX7_copyPlain cX7_copyPlain 3 none al n X [.ref a0, .int x1, .int x2] M none M1 := by
  refine AM.of false (by decide +kernel) (by intro h; cases h) (Nat.le_of_ble_eq_true rfl) ?_
  have h2 : T_X7_copyPlain_0 (fun v2 M2 => some (v2, M2) = some (v, M1)) (none = some (v, M1)) n a0 x1 x2 M := (n_X7_copyPlain_0 (fun o => o = some (v, M1)) (fun v M => some (v, M)) none n a0 x1 x2 M).mp h
  have h3 : ((none : Option (Unit × Mem)) = some (v, M1)) = False := eq_false (by intro q; cases q)
  rw [h3] at h2
  exact w_X7_copyPlain_0 (fun v2 M2 h => by cases h; exact ⟨rfl, rfl⟩) h2

noncomputable abbrev f_X7_copyPlain := b_X7_copyPlain
theorem s_X7_copyPlain {X : Nat × (Nat → Int32)} {al : Bool} {n : Nat} {a0 : Nat} {x1 : Int32} {x2 : Int32} {M : Mem} {v : Unit} {M1 : Mem} (h : f_X7_copyPlain n a0 x1 x2 M = some (v, M1)) : AE yX7_copyPlain cX7_copyPlain 3 none al n X [.ref a0, .int x1, .int x2] M none M1 := sb_X7_copyPlain h
set_option maxHeartbeats 4000000 in
set_option maxRecDepth 100000 in
noncomputable def T_X9_isName_0.{u} {α : Sort u} (R : Int32 → Mem → α) (N : α) (n : Nat) (a0 : Nat) (x1 : Int32) (x2 : Int32) (M : Mem) : α := gd (fO M a0 9) N (bnd2 (cal n (fun n => f_X9_opAt n a0 x1 M)) N (fun v3 M4 => if v3 = 1 then gd (fO M4 a0 9) N (bnd2 (cal n (fun n => f_X9_argAt n a0 x1 M4)) N (fun v11 M12 => if v11 = x2 then R 1 M12 else R 0 M12)) else R 0 M4))
set_option maxHeartbeats 4000000 in
set_option maxRecDepth 100000 in
theorem n_X9_isName_0.{u, v} {α : Sort u} {β : Sort v} (h : α → β) (R : Int32 → Mem → α) (N : α) (n : Nat) (a0 : Nat) (x1 : Int32) (x2 : Int32) (M : Mem) : h (T_X9_isName_0 R N n a0 x1 x2 M) = T_X9_isName_0 (fun v M => h (R v M)) (h N) n a0 x1 x2 M := by
  simp only [T_X9_isName_0, nat_ite h, nat_gd h, nat_bnd h, nat_bnd2 h]
set_option maxHeartbeats 4000000 in
set_option maxRecDepth 100000 in
theorem w_X9_isName_0 {X : Nat × (Nat → Int32)} {al : Bool} {n : Nat} {Q : Option Value → Mem → Prop} {R : Int32 → Mem → Prop} (hR : ∀ v M, R v M → Q (some (.int v)) M) {a0 : Nat} {x1 : Int32} {x2 : Int32} {M : Mem} (h : T_X9_isName_0 R False n a0 x1 x2 M) : AW X (RX9, cX9_isName, 3, (some .boolean), false, al, n) 0 0 0 [(0, .ref a0), (1, .int x1), (2, .int x2)] [] M Q := by
  unfold T_X9_isName_0 at h
  refine a_aload_n dX9_isName_0 rfl rfl ?_
  refine a_iload_n dX9_isName_1 rfl rfl ?_
  obtain ⟨⟨ga1, gs2⟩, h⟩ := gd_t h
  obtain ⟨v3, M4, e5, h⟩ := bnd2_t h
  obtain ⟨n6, en7, e5⟩ := cal_t e5
  refine e_callV (As := [.int x1]) (st := []) (a := a0) (ci := 9) false dX9_isName_2 mw_X9_opAt (Or.inl ⟨rfl, ml_X9_26⟩) im_X9_opAt se_X9_opAt (by decide) ga1 gs2 rfl (Nat.le_of_ble_eq_true rfl) en7 (s_X9_opAt e5) ?_
  refine a_iconst (v := 1) dX9_isName_5 (by decide) ?_
  refine a_icmp_ne 22 dX9_isName_6 (by decide) (fun c8 => ?_) (fun c8 => ?_)
  · replace h := ite_f c8 h
    refine a_iconst (v := 0) dX9_isName_22 (by decide) ?_
    exact a_zret dX9_isName_23 rfl rfl (hR _ _ h)
  · replace h := ite_t c8 h
    refine a_aload_n dX9_isName_9 rfl rfl ?_
    refine a_iload_n dX9_isName_10 rfl rfl ?_
    obtain ⟨⟨ga9, gs10⟩, h⟩ := gd_t h
    obtain ⟨v11, M12, e13, h⟩ := bnd2_t h
    obtain ⟨n14, en15, e13⟩ := cal_t e13
    refine e_callV (As := [.int x1]) (st := []) (a := a0) (ci := 9) false dX9_isName_11 mw_X9_argAt (Or.inl ⟨rfl, ml_X9_30⟩) im_X9_argAt se_X9_argAt (by decide) ga9 gs10 rfl (Nat.le_of_ble_eq_true rfl) en15 (s_X9_argAt e13) ?_
    refine a_iload_n dX9_isName_14 rfl rfl ?_
    refine a_icmp_ne 22 dX9_isName_15 (by decide) (fun c16 => ?_) (fun c16 => ?_)
    · replace h := ite_f c16 h
      refine a_iconst (v := 0) dX9_isName_22 (by decide) ?_
      exact a_zret dX9_isName_23 rfl rfl (hR _ _ h)
    · replace h := ite_t c16 h
      refine a_iconst (v := 1) dX9_isName_18 (by decide) ?_
      refine a_goto 23 dX9_isName_19 (by decide) ?_
      exact a_zret dX9_isName_23 rfl rfl (hR _ _ h)
noncomputable def b_X9_isName (n : Nat) (a0 : Nat) (x1 : Int32) (x2 : Int32) (M : Mem) : Option (Int32 × Mem) := T_X9_isName_0 (fun v M => some (v, M)) none n a0 x1 x2 M
set_option maxHeartbeats 4000000 in
set_option maxRecDepth 100000 in
theorem sb_X9_isName {X : Nat × (Nat → Int32)} {al : Bool} {n : Nat} {a0 : Nat} {x1 : Int32} {x2 : Int32} {M : Mem} {v : Int32} {M1 : Mem} (h : b_X9_isName n a0 x1 x2 M = some (v, M1)) : AE yX9_isName cX9_isName 3 (some .boolean) al n X [.ref a0, .int x1, .int x2] M (some (.int v)) M1 := by
  refine AM.of false (by decide +kernel) (by intro h; cases h) (Nat.le_of_ble_eq_true rfl) ?_
  have h2 : T_X9_isName_0 (fun v2 M2 => some (v2, M2) = some (v, M1)) (none = some (v, M1)) n a0 x1 x2 M := (n_X9_isName_0 (fun o => o = some (v, M1)) (fun v M => some (v, M)) none n a0 x1 x2 M).mp h
  have h3 : ((none : Option (Int32 × Mem)) = some (v, M1)) = False := eq_false (by intro q; cases q)
  rw [h3] at h2
  exact w_X9_isName_0 (fun v2 M2 h => by cases h; exact ⟨rfl, rfl⟩) h2

noncomputable abbrev f_X9_isName := b_X9_isName
theorem s_X9_isName {X : Nat × (Nat → Int32)} {al : Bool} {n : Nat} {a0 : Nat} {x1 : Int32} {x2 : Int32} {M : Mem} {v : Int32} {M1 : Mem} (h : f_X9_isName n a0 x1 x2 M = some (v, M1)) : AE yX9_isName cX9_isName 3 (some .boolean) al n X [.ref a0, .int x1, .int x2] M (some (.int v)) M1 := sb_X9_isName h
def ix_X7_putFor (c : Nat) : List Nat := if c = 0 then [0, 1, 2, 3, 4] else if c = 23 then [0, 3, 4, 5, 6, 7] else if c = 128 then [0, 3, 4, 5, 6, 7, 8] else []
def PW_X7_putFor (X : Nat × (Nat → Int32)) (al : Bool) (n : Nat) (Q : Option Value → Mem → Prop) (c : Nat) (l : List Value) (M : Mem) : Prop := AW X (RX7, cX7_putFor, 10, none, false, al, n) 0 0 c (List.zip (ix_X7_putFor c) l) (l.drop (ix_X7_putFor c).length) M Q
set_option maxHeartbeats 4000000 in
set_option maxRecDepth 100000 in
noncomputable def T_X7_putFor_0.{u} {α : Sort u} (J : Nat → List Value → Mem → α) (R : Unit → Mem → α) (N : α) (n : Nat) (a0 : Nat) (x1 : Int32) (x2 : Int32) (x3 : Int32) (x4 : Int32) (M : Mem) : α := gd (fO M a0 7) N (bnd (M.2.2.2.2 a0 0) N (fun r3 => gd (fO M r3 3) N (bnd2 (cal n (fun n => f_X3_depthOf n r3 x1 M)) N (fun v7 M8 => gd (fO M8 a0 7) N (bnd (M8.2.2.2.2 a0 0) N (fun r14 => gd (fO M8 r14 3) N (bnd2 (cal n (fun n => f_X3_endOf n r14 x2 M8)) N (fun v18 M19 => J 23 [.ref a0, .int x3, .int x4, .int v7, .int v18, .int x2] M19))))))))
set_option maxHeartbeats 4000000 in
set_option maxRecDepth 100000 in
theorem n_X7_putFor_0.{u, v} {α : Sort u} {β : Sort v} (h : α → β) (J : Nat → List Value → Mem → α) (R : Unit → Mem → α) (N : α) (n : Nat) (a0 : Nat) (x1 : Int32) (x2 : Int32) (x3 : Int32) (x4 : Int32) (M : Mem) : h (T_X7_putFor_0 J R N n a0 x1 x2 x3 x4 M) = T_X7_putFor_0 (fun c l M => h (J c l M)) (fun v M => h (R v M)) (h N) n a0 x1 x2 x3 x4 M := by
  simp only [T_X7_putFor_0, nat_ite h, nat_gd h, nat_bnd h, nat_bnd2 h]
set_option maxHeartbeats 4000000 in
set_option maxRecDepth 100000 in
theorem w_X7_putFor_0 {X : Nat × (Nat → Int32)} {al : Bool} {n : Nat} {Q : Option Value → Mem → Prop} {J : Nat → List Value → Mem → Prop} (hJ : ∀ c l M, J c l M → PW_X7_putFor X al n Q c l M) {R : Unit → Mem → Prop} (hR : ∀ v M, R v M → Q none M) {a0 : Nat} {x1 : Int32} {x2 : Int32} {x3 : Int32} {x4 : Int32} {M : Mem} (h : T_X7_putFor_0 J R False n a0 x1 x2 x3 x4 M) : AW X (RX7, cX7_putFor, 10, none, false, al, n) 0 0 0 [(0, .ref a0), (1, .int x1), (2, .int x2), (3, .int x3), (4, .int x4)] [] M Q := by
  unfold T_X7_putFor_0 at h
  refine a_aload_n dX7_putFor_0 rfl rfl ?_
  obtain ⟨⟨ga1, gs2⟩, h⟩ := gd_t h
  obtain ⟨r3, e4, h⟩ := bnd_t h
  refine a_get (v := .ref r3) dX7_putFor_1 fl_7_27 ga1 gs2 (gvR e4 rfl) ?_
  refine a_iload_n dX7_putFor_4 rfl rfl ?_
  obtain ⟨⟨ga5, gs6⟩, h⟩ := gd_t h
  obtain ⟨v7, M8, e9, h⟩ := bnd2_t h
  obtain ⟨n10, en11, e9⟩ := cal_t e9
  refine e_callV (As := [.int x1]) (st := []) (a := r3) (ci := 3) false dX7_putFor_5 mw_X3_depthOf (Or.inl ⟨rfl, ml_X7_93⟩) im_X3_depthOf se_X3_depthOf (by decide) ga5 gs6 rfl (Nat.le_of_ble_eq_true rfl) en11 (s_X3_depthOf e9) ?_
  refine a_istore dX7_putFor_8 (Nat.le_of_ble_eq_true rfl) (lv2 := [(5, .int v7), (0, .ref a0), (1, .int x1), (2, .int x2), (3, .int x3), (4, .int x4)]) rfl ?_
  refine a_aload_n dX7_putFor_10 rfl rfl ?_
  obtain ⟨⟨ga12, gs13⟩, h⟩ := gd_t h
  obtain ⟨r14, e15, h⟩ := bnd_t h
  refine a_get (v := .ref r14) dX7_putFor_11 fl_7_27 ga12 gs13 (gvR e15 rfl) ?_
  refine a_iload_n dX7_putFor_14 rfl rfl ?_
  obtain ⟨⟨ga16, gs17⟩, h⟩ := gd_t h
  obtain ⟨v18, M19, e20, h⟩ := bnd2_t h
  obtain ⟨n21, en22, e20⟩ := cal_t e20
  refine e_callV (As := [.int x2]) (st := []) (a := r14) (ci := 3) false dX7_putFor_15 mw_X3_endOf (Or.inl ⟨rfl, ml_X7_58⟩) im_X3_endOf se_X3_endOf (by decide) ga16 gs17 rfl (Nat.le_of_ble_eq_true rfl) en22 (s_X3_endOf e20) ?_
  refine a_istore dX7_putFor_18 (Nat.le_of_ble_eq_true rfl) (lv2 := [(6, .int v18), (5, .int v7), (0, .ref a0), (1, .int x1), (2, .int x2), (3, .int x3), (4, .int x4)]) rfl ?_
  refine a_iload_n dX7_putFor_20 rfl rfl ?_
  refine a_istore dX7_putFor_21 (Nat.le_of_ble_eq_true rfl) (lv2 := [(7, .int x2), (6, .int v18), (5, .int v7), (0, .ref a0), (1, .int x1), (2, .int x2), (3, .int x3), (4, .int x4)]) rfl ?_
  exact a_lv (lv2 := [(0, .ref a0), (3, .int x3), (4, .int x4), (5, .int v7), (6, .int v18), (7, .int x2)]) (fa_cons rfl (fa_cons rfl (fa_cons rfl (fa_cons rfl (fa_cons rfl (fa_cons rfl fa_nil)))))) (hJ _ _ _ h)
set_option maxHeartbeats 4000000 in
set_option maxRecDepth 100000 in
noncomputable def T_X7_putFor_23.{u} {α : Sort u} (J : Nat → List Value → Mem → α) (R : Unit → Mem → α) (N : α) (n : Nat) (a0 : Nat) (x3 : Int32) (x4 : Int32) (x5 : Int32) (x6 : Int32) (x7 : Int32) (M : Mem) : α := if x6 ≤ x7 then R () M else if 200 ≤ x7 then R () M else gd (fO M a0 7) N (bnd (M.2.2.2.2 a0 2) N (fun r5 => gd (fO M r5 9) N (if (M.2.2.1 r5 3) = 0 then bnd (M.2.2.2.2 a0 1) N (fun r10 => gd (fO M r10 9) N (bnd2 (cal n (fun n => f_X9_argAt n r10 x7 M)) N (fun v14 M15 => gd (fO M15 a0 7) N (bnd (M15.2.2.2.2 a0 1) N (fun r21 => gd (fO M15 r21 9) N (bnd2 (cal n (fun n => f_X9_isName n r21 x7 x5 M15)) N (fun v25 M26 => if v25 = 0 then gd (fO M26 a0 7) N (bnd (M26.2.2.2.2 a0 1) N (fun r33 => gd (fO M26 r33 9) N (bnd2 (cal n (fun n => f_X9_opAt n r33 x7 M26)) N (fun v37 M38 => if v37 = 1 then if v14 ≤ x5 then J 128 [.ref a0, .int x3, .int x4, .int x5, .int x6, .int x7, .int v14, .int 0] M38 else J 128 [.ref a0, .int x3, .int x4, .int x5, .int x6, .int x7, .int v14, .int 1] M38 else J 128 [.ref a0, .int x3, .int x4, .int x5, .int x6, .int x7, .int v14, .int 0] M38)))) else gd (fO M26 a0 7) N (bnd (M26.2.2.2.2 a0 1) N (fun r46 => bnd (M26.2.2.2.2 a0 0) N (fun r48 => gd (fO M26 r48 3) N (bnd2 (cal n (fun n => f_X3_depthOf n r48 x7 M26)) N (fun v52 M53 => gd (fO M53 a0 7) N (bnd2 (cal n (fun n => f_X7_copyDeeper n a0 r46 x3 x4 x5 ((v52 - 1) - x5) M53)) N (fun _ M59 => J 23 [.ref a0, .int x3, .int x4, .int x5, .int x6, .int (x7 + 1)] M59)))))))))))))) else R () M)))
set_option maxHeartbeats 4000000 in
set_option maxRecDepth 100000 in
theorem n_X7_putFor_23.{u, v} {α : Sort u} {β : Sort v} (h : α → β) (J : Nat → List Value → Mem → α) (R : Unit → Mem → α) (N : α) (n : Nat) (a0 : Nat) (x3 : Int32) (x4 : Int32) (x5 : Int32) (x6 : Int32) (x7 : Int32) (M : Mem) : h (T_X7_putFor_23 J R N n a0 x3 x4 x5 x6 x7 M) = T_X7_putFor_23 (fun c l M => h (J c l M)) (fun v M => h (R v M)) (h N) n a0 x3 x4 x5 x6 x7 M := by
  simp only [T_X7_putFor_23, nat_ite h, nat_gd h, nat_bnd h, nat_bnd2 h]
set_option maxHeartbeats 4000000 in
set_option maxRecDepth 100000 in
theorem w_X7_putFor_23 {X : Nat × (Nat → Int32)} {al : Bool} {n : Nat} {Q : Option Value → Mem → Prop} {J : Nat → List Value → Mem → Prop} (hJ : ∀ c l M, J c l M → PW_X7_putFor X al n Q c l M) {R : Unit → Mem → Prop} (hR : ∀ v M, R v M → Q none M) {a0 : Nat} {x3 : Int32} {x4 : Int32} {x5 : Int32} {x6 : Int32} {x7 : Int32} {M : Mem} (h : T_X7_putFor_23 J R False n a0 x3 x4 x5 x6 x7 M) : AW X (RX7, cX7_putFor, 10, none, false, al, n) 0 0 23 [(0, .ref a0), (3, .int x3), (4, .int x4), (5, .int x5), (6, .int x6), (7, .int x7)] [] M Q := by
  unfold T_X7_putFor_23 at h
  refine a_iload dX7_putFor_23 rfl ?_
  refine a_iload dX7_putFor_25 rfl ?_
  refine a_icmp_ge 166 dX7_putFor_27 (by decide) (fun c1 => ?_) (fun c1 => ?_)
  · replace h := ite_t c1 h
    exact a_vret dX7_putFor_166 rfl (hR _ _ h)
  · replace h := ite_f c1 h
    refine a_iload dX7_putFor_30 rfl ?_
    refine a_sipush (v := 200) dX7_putFor_32 (by decide) ?_
    refine a_icmp_ge 166 dX7_putFor_35 (by decide) (fun c2 => ?_) (fun c2 => ?_)
    · replace h := ite_t c2 h
      exact a_vret dX7_putFor_166 rfl (hR _ _ h)
    · replace h := ite_f c2 h
      refine a_aload_n dX7_putFor_38 rfl rfl ?_
      obtain ⟨⟨ga3, gs4⟩, h⟩ := gd_t h
      obtain ⟨r5, e6, h⟩ := bnd_t h
      refine a_get (v := .ref r5) dX7_putFor_39 fl_7_18 ga3 gs4 (gvR e6 rfl) ?_
      obtain ⟨⟨ga7, gs8⟩, h⟩ := gd_t h
      refine a_getN (v := .int (M.2.2.1 r5 3)) dX7_putFor_42 fn_7_65 ga7 gs8 rfl ?_
      refine a_if_ne 166 dX7_putFor_45 (by decide) (fun c9 => ?_) (fun c9 => ?_)
      · replace h := ite_f c9 h
        exact a_vret dX7_putFor_166 rfl (hR _ _ h)
      · replace h := ite_t c9 h
        refine a_aload_n dX7_putFor_48 rfl rfl ?_
        obtain ⟨r10, e11, h⟩ := bnd_t h
        refine a_get (v := .ref r10) dX7_putFor_49 fl_7_12 ga3 gs4 (gvR e11 rfl) ?_
        refine a_iload dX7_putFor_52 rfl ?_
        obtain ⟨⟨ga12, gs13⟩, h⟩ := gd_t h
        obtain ⟨v14, M15, e16, h⟩ := bnd2_t h
        obtain ⟨n17, en18, e16⟩ := cal_t e16
        refine e_callV (As := [.int x7]) (st := []) (a := r10) (ci := 9) false dX7_putFor_54 mw_X9_argAt (Or.inl ⟨rfl, ml_X7_87⟩) im_X9_argAt se_X9_argAt (by decide) ga12 gs13 rfl (Nat.le_of_ble_eq_true rfl) en18 (s_X9_argAt e16) ?_
        refine a_istore dX7_putFor_57 (Nat.le_of_ble_eq_true rfl) (lv2 := [(8, .int v14), (0, .ref a0), (3, .int x3), (4, .int x4), (5, .int x5), (6, .int x6), (7, .int x7)]) rfl ?_
        refine a_aload_n dX7_putFor_59 rfl rfl ?_
        obtain ⟨⟨ga19, gs20⟩, h⟩ := gd_t h
        obtain ⟨r21, e22, h⟩ := bnd_t h
        refine a_get (v := .ref r21) dX7_putFor_60 fl_7_12 ga19 gs20 (gvR e22 rfl) ?_
        refine a_iload dX7_putFor_63 rfl ?_
        refine a_iload dX7_putFor_65 rfl ?_
        obtain ⟨⟨ga23, gs24⟩, h⟩ := gd_t h
        obtain ⟨v25, M26, e27, h⟩ := bnd2_t h
        obtain ⟨n28, en29, e27⟩ := cal_t e27
        refine e_callV (As := [.int x7, .int x5]) (st := []) (a := r21) (ci := 9) false dX7_putFor_67 mw_X9_isName (Or.inl ⟨rfl, ml_X7_96⟩) im_X9_isName se_X9_isName (by decide) ga23 gs24 rfl (Nat.le_of_ble_eq_true rfl) en29 (s_X9_isName e27) ?_
        refine a_if_eq 103 dX7_putFor_70 (by decide) (fun c30 => ?_) (fun c30 => ?_)
        · replace h := ite_t c30 h
          refine a_aload_n dX7_putFor_103 rfl rfl ?_
          obtain ⟨⟨ga31, gs32⟩, h⟩ := gd_t h
          obtain ⟨r33, e34, h⟩ := bnd_t h
          refine a_get (v := .ref r33) dX7_putFor_104 fl_7_12 ga31 gs32 (gvR e34 rfl) ?_
          refine a_iload dX7_putFor_107 rfl ?_
          obtain ⟨⟨ga35, gs36⟩, h⟩ := gd_t h
          obtain ⟨v37, M38, e39, h⟩ := bnd2_t h
          obtain ⟨n40, en41, e39⟩ := cal_t e39
          refine e_callV (As := [.int x7]) (st := []) (a := r33) (ci := 9) false dX7_putFor_109 mw_X9_opAt (Or.inl ⟨rfl, ml_X7_90⟩) im_X9_opAt se_X9_opAt (by decide) ga35 gs36 rfl (Nat.le_of_ble_eq_true rfl) en41 (s_X9_opAt e39) ?_
          refine a_iconst (v := 1) dX7_putFor_112 (by decide) ?_
          refine a_icmp_ne 127 dX7_putFor_113 (by decide) (fun c42 => ?_) (fun c42 => ?_)
          · replace h := ite_f c42 h
            refine a_iconst (v := 0) dX7_putFor_127 (by decide) ?_
            exact a_lv (lv2 := [(0, .ref a0), (3, .int x3), (4, .int x4), (5, .int x5), (6, .int x6), (7, .int x7), (8, .int v14)]) (fa_cons rfl (fa_cons rfl (fa_cons rfl (fa_cons rfl (fa_cons rfl (fa_cons rfl (fa_cons rfl fa_nil))))))) (hJ _ _ _ h)
          · replace h := ite_t c42 h
            refine a_iload dX7_putFor_116 rfl ?_
            refine a_iload dX7_putFor_118 rfl ?_
            refine a_icmp_le 127 dX7_putFor_120 (by decide) (fun c43 => ?_) (fun c43 => ?_)
            · replace h := ite_t c43 h
              refine a_iconst (v := 0) dX7_putFor_127 (by decide) ?_
              exact a_lv (lv2 := [(0, .ref a0), (3, .int x3), (4, .int x4), (5, .int x5), (6, .int x6), (7, .int x7), (8, .int v14)]) (fa_cons rfl (fa_cons rfl (fa_cons rfl (fa_cons rfl (fa_cons rfl (fa_cons rfl (fa_cons rfl fa_nil))))))) (hJ _ _ _ h)
            · replace h := ite_f c43 h
              refine a_iconst (v := 1) dX7_putFor_123 (by decide) ?_
              refine a_goto 128 dX7_putFor_124 (by decide) ?_
              exact a_lv (lv2 := [(0, .ref a0), (3, .int x3), (4, .int x4), (5, .int x5), (6, .int x6), (7, .int x7), (8, .int v14)]) (fa_cons rfl (fa_cons rfl (fa_cons rfl (fa_cons rfl (fa_cons rfl (fa_cons rfl (fa_cons rfl fa_nil))))))) (hJ _ _ _ h)
        · replace h := ite_f c30 h
          refine a_aload_n dX7_putFor_73 rfl rfl ?_
          refine a_aload_n dX7_putFor_74 rfl rfl ?_
          obtain ⟨⟨ga44, gs45⟩, h⟩ := gd_t h
          obtain ⟨r46, e47, h⟩ := bnd_t h
          refine a_get (v := .ref r46) dX7_putFor_75 fl_7_12 ga44 gs45 (gvR e47 rfl) ?_
          refine a_iload_n dX7_putFor_78 rfl rfl ?_
          refine a_iload dX7_putFor_79 rfl ?_
          refine a_iload dX7_putFor_81 rfl ?_
          refine a_aload_n dX7_putFor_83 rfl rfl ?_
          obtain ⟨r48, e49, h⟩ := bnd_t h
          refine a_get (v := .ref r48) dX7_putFor_84 fl_7_27 ga44 gs45 (gvR e49 rfl) ?_
          refine a_iload dX7_putFor_87 rfl ?_
          obtain ⟨⟨ga50, gs51⟩, h⟩ := gd_t h
          obtain ⟨v52, M53, e54, h⟩ := bnd2_t h
          obtain ⟨n55, en56, e54⟩ := cal_t e54
          refine e_callV (As := [.int x7]) (st := [.int x5, .int x4, .int x3, .ref r46, .ref a0]) (a := r48) (ci := 3) false dX7_putFor_89 mw_X3_depthOf (Or.inl ⟨rfl, ml_X7_93⟩) im_X3_depthOf se_X3_depthOf (by decide) ga50 gs51 rfl (Nat.le_of_ble_eq_true rfl) en56 (s_X3_depthOf e54) ?_
          refine a_iconst (v := 1) dX7_putFor_92 (by decide) ?_
          refine a_isub dX7_putFor_93 ?_
          refine a_iload dX7_putFor_94 rfl ?_
          refine a_isub dX7_putFor_96 ?_
          obtain ⟨⟨ga57, gs58⟩, h⟩ := gd_t h
          obtain ⟨_, M59, e60, h⟩ := bnd2_t h
          obtain ⟨n61, en62, e60⟩ := cal_t e60
          refine e_callV (As := [.ref r46, .int x3, .int x4, .int x5, .int ((v52 - 1) - x5)]) (st := []) (a := a0) (ci := 7) false dX7_putFor_97 mw_X7_copyDeeper (Or.inl ⟨rfl, ml_X7_83⟩) im_X7_copyDeeper se_X7_copyDeeper (by decide) ga57 gs58 rfl (Nat.le_of_ble_eq_true rfl) en62 (s_X7_copyDeeper e60) ?_
          refine a_goto 160 dX7_putFor_100 (by decide) ?_
          refine a_iinc (v := (x7 + 1)) dX7_putFor_160 rfl (by first | rfl | decide) (Nat.le_of_ble_eq_true rfl) (lv2 := [(7, .int (x7 + 1)), (8, .int v14), (0, .ref a0), (3, .int x3), (4, .int x4), (5, .int x5), (6, .int x6)]) rfl ?_
          refine a_goto 23 dX7_putFor_163 (by decide) ?_
          exact a_lv (lv2 := [(0, .ref a0), (3, .int x3), (4, .int x4), (5, .int x5), (6, .int x6), (7, .int (x7 + 1))]) (fa_cons rfl (fa_cons rfl (fa_cons rfl (fa_cons rfl (fa_cons rfl (fa_cons rfl fa_nil)))))) (hJ _ _ _ h)
set_option maxHeartbeats 4000000 in
set_option maxRecDepth 100000 in
noncomputable def T_X7_putFor_128.{u} {α : Sort u} (J : Nat → List Value → Mem → α) (R : Unit → Mem → α) (N : α) (n : Nat) (a0 : Nat) (x3 : Int32) (x4 : Int32) (x5 : Int32) (x6 : Int32) (x7 : Int32) (x8 : Int32) (xs0 : Int32) (M : Mem) : α := gd (fO M a0 7) N (bnd (M.2.2.2.2 a0 2) N (fun r3 => bnd (M.2.2.2.2 a0 1) N (fun r5 => gd (fO M r5 9) N (bnd2 (cal n (fun n => f_X9_opAt n r5 x7 M)) N (fun v9 M10 => if xs0 = 0 then gd (fO M10 r3 9) N (bnd2 (cal n (fun n => f_X9_add n r3 v9 x8 M10)) N (fun _ M17 => J 23 [.ref a0, .int x3, .int x4, .int x5, .int x6, .int (x7 + 1)] M17)) else gd (fO M10 r3 9) N (bnd2 (cal n (fun n => f_X9_add n r3 v9 (x8 - 1) M10)) N (fun _ M23 => J 23 [.ref a0, .int x3, .int x4, .int x5, .int x6, .int (x7 + 1)] M23)))))))
set_option maxHeartbeats 4000000 in
set_option maxRecDepth 100000 in
theorem n_X7_putFor_128.{u, v} {α : Sort u} {β : Sort v} (h : α → β) (J : Nat → List Value → Mem → α) (R : Unit → Mem → α) (N : α) (n : Nat) (a0 : Nat) (x3 : Int32) (x4 : Int32) (x5 : Int32) (x6 : Int32) (x7 : Int32) (x8 : Int32) (xs0 : Int32) (M : Mem) : h (T_X7_putFor_128 J R N n a0 x3 x4 x5 x6 x7 x8 xs0 M) = T_X7_putFor_128 (fun c l M => h (J c l M)) (fun v M => h (R v M)) (h N) n a0 x3 x4 x5 x6 x7 x8 xs0 M := by
  simp only [T_X7_putFor_128, nat_ite h, nat_gd h, nat_bnd h, nat_bnd2 h]
set_option maxHeartbeats 4000000 in
set_option maxRecDepth 100000 in
theorem w_X7_putFor_128 {X : Nat × (Nat → Int32)} {al : Bool} {n : Nat} {Q : Option Value → Mem → Prop} {J : Nat → List Value → Mem → Prop} (hJ : ∀ c l M, J c l M → PW_X7_putFor X al n Q c l M) {R : Unit → Mem → Prop} (hR : ∀ v M, R v M → Q none M) {a0 : Nat} {x3 : Int32} {x4 : Int32} {x5 : Int32} {x6 : Int32} {x7 : Int32} {x8 : Int32} {xs0 : Int32} {M : Mem} (h : T_X7_putFor_128 J R False n a0 x3 x4 x5 x6 x7 x8 xs0 M) : AW X (RX7, cX7_putFor, 10, none, false, al, n) 0 0 128 [(0, .ref a0), (3, .int x3), (4, .int x4), (5, .int x5), (6, .int x6), (7, .int x7), (8, .int x8)] [.int xs0] M Q := by
  unfold T_X7_putFor_128 at h
  refine a_istore dX7_putFor_128 (Nat.le_of_ble_eq_true rfl) (lv2 := [(9, .int xs0), (0, .ref a0), (3, .int x3), (4, .int x4), (5, .int x5), (6, .int x6), (7, .int x7), (8, .int x8)]) rfl ?_
  refine a_aload_n dX7_putFor_130 rfl rfl ?_
  obtain ⟨⟨ga1, gs2⟩, h⟩ := gd_t h
  obtain ⟨r3, e4, h⟩ := bnd_t h
  refine a_get (v := .ref r3) dX7_putFor_131 fl_7_18 ga1 gs2 (gvR e4 rfl) ?_
  refine a_aload_n dX7_putFor_134 rfl rfl ?_
  obtain ⟨r5, e6, h⟩ := bnd_t h
  refine a_get (v := .ref r5) dX7_putFor_135 fl_7_12 ga1 gs2 (gvR e6 rfl) ?_
  refine a_iload dX7_putFor_138 rfl ?_
  obtain ⟨⟨ga7, gs8⟩, h⟩ := gd_t h
  obtain ⟨v9, M10, e11, h⟩ := bnd2_t h
  obtain ⟨n12, en13, e11⟩ := cal_t e11
  refine e_callV (As := [.int x7]) (st := [.ref r3]) (a := r5) (ci := 9) false dX7_putFor_140 mw_X9_opAt (Or.inl ⟨rfl, ml_X7_90⟩) im_X9_opAt se_X9_opAt (by decide) ga7 gs8 rfl (Nat.le_of_ble_eq_true rfl) en13 (s_X9_opAt e11) ?_
  refine a_iload dX7_putFor_143 rfl ?_
  refine a_if_eq 155 dX7_putFor_145 (by decide) (fun c14 => ?_) (fun c14 => ?_)
  · replace h := ite_t c14 h
    refine a_iload dX7_putFor_155 rfl ?_
    obtain ⟨⟨ga15, gs16⟩, h⟩ := gd_t h
    obtain ⟨_, M17, e18, h⟩ := bnd2_t h
    obtain ⟨n19, en20, e18⟩ := cal_t e18
    refine e_callV (As := [.int v9, .int x8]) (st := []) (a := r3) (ci := 9) false dX7_putFor_157 mw_X9_add (Or.inl ⟨rfl, ml_X7_80⟩) im_X9_add se_X9_add (by decide) ga15 gs16 rfl (Nat.le_of_ble_eq_true rfl) en20 (s_X9_add e18) ?_
    refine a_iinc (v := (x7 + 1)) dX7_putFor_160 rfl (by first | rfl | decide) (Nat.le_of_ble_eq_true rfl) (lv2 := [(7, .int (x7 + 1)), (9, .int xs0), (0, .ref a0), (3, .int x3), (4, .int x4), (5, .int x5), (6, .int x6), (8, .int x8)]) rfl ?_
    refine a_goto 23 dX7_putFor_163 (by decide) ?_
    exact a_lv (lv2 := [(0, .ref a0), (3, .int x3), (4, .int x4), (5, .int x5), (6, .int x6), (7, .int (x7 + 1))]) (fa_cons rfl (fa_cons rfl (fa_cons rfl (fa_cons rfl (fa_cons rfl (fa_cons rfl fa_nil)))))) (hJ _ _ _ h)
  · replace h := ite_f c14 h
    refine a_iload dX7_putFor_148 rfl ?_
    refine a_iconst (v := 1) dX7_putFor_150 (by decide) ?_
    refine a_isub dX7_putFor_151 ?_
    refine a_goto 157 dX7_putFor_152 (by decide) ?_
    obtain ⟨⟨ga21, gs22⟩, h⟩ := gd_t h
    obtain ⟨_, M23, e24, h⟩ := bnd2_t h
    obtain ⟨n25, en26, e24⟩ := cal_t e24
    refine e_callV (As := [.int v9, .int (x8 - 1)]) (st := []) (a := r3) (ci := 9) false dX7_putFor_157 mw_X9_add (Or.inl ⟨rfl, ml_X7_80⟩) im_X9_add se_X9_add (by decide) ga21 gs22 rfl (Nat.le_of_ble_eq_true rfl) en26 (s_X9_add e24) ?_
    refine a_iinc (v := (x7 + 1)) dX7_putFor_160 rfl (by first | rfl | decide) (Nat.le_of_ble_eq_true rfl) (lv2 := [(7, .int (x7 + 1)), (9, .int xs0), (0, .ref a0), (3, .int x3), (4, .int x4), (5, .int x5), (6, .int x6), (8, .int x8)]) rfl ?_
    refine a_goto 23 dX7_putFor_163 (by decide) ?_
    exact a_lv (lv2 := [(0, .ref a0), (3, .int x3), (4, .int x4), (5, .int x5), (6, .int x6), (7, .int (x7 + 1))]) (fa_cons rfl (fa_cons rfl (fa_cons rfl (fa_cons rfl (fa_cons rfl (fa_cons rfl fa_nil)))))) (hJ _ _ _ h)
set_option maxHeartbeats 4000000 in
set_option maxRecDepth 100000 in
noncomputable def st_X7_putFor (n : Nat) (s : Sg) : Option (Sg ⊕ (Unit × Mem)) := if s.1 = 0 then vR s.2.1 none (fun a0 t => vI t none (fun x1 t => vI t none (fun x2 t => vI t none (fun x3 t => vI t none (fun x4 t => vE t none (T_X7_putFor_0 (fun c l M => some (.inl (c, l, M))) (fun v M => some (.inr (v, M))) none n a0 x1 x2 x3 x4 s.2.2)))))) else if s.1 = 23 then vR s.2.1 none (fun a0 t => vI t none (fun x3 t => vI t none (fun x4 t => vI t none (fun x5 t => vI t none (fun x6 t => vI t none (fun x7 t => vE t none (T_X7_putFor_23 (fun c l M => some (.inl (c, l, M))) (fun v M => some (.inr (v, M))) none n a0 x3 x4 x5 x6 x7 s.2.2))))))) else if s.1 = 128 then vR s.2.1 none (fun a0 t => vI t none (fun x3 t => vI t none (fun x4 t => vI t none (fun x5 t => vI t none (fun x6 t => vI t none (fun x7 t => vI t none (fun x8 t => vI t none (fun xs0 t => vE t none (T_X7_putFor_128 (fun c l M => some (.inl (c, l, M))) (fun v M => some (.inr (v, M))) none n a0 x3 x4 x5 x6 x7 x8 xs0 s.2.2))))))))) else none
noncomputable abbrev g_X7_putFor_0 (n : Nat) (a0 : Nat) (x1 : Int32) (x2 : Int32) (x3 : Int32) (x4 : Int32) (M : Mem) : Option (Unit × Mem) := lp (st_X7_putFor n) (0, [.ref a0, .int x1, .int x2, .int x3, .int x4], M)
set_option maxHeartbeats 4000000 in
set_option maxRecDepth 100000 in
theorem ge_X7_putFor_0 (n : Nat) (a0 : Nat) (x1 : Int32) (x2 : Int32) (x3 : Int32) (x4 : Int32) (M : Mem) : g_X7_putFor_0 n a0 x1 x2 x3 x4 M = T_X7_putFor_0 (fun c l M => lp (st_X7_putFor n) (c, l, M)) (fun v M => some (v, M)) none n a0 x1 x2 x3 x4 M := (lp_eq _ _).trans (n_X7_putFor_0 (lpK (st_X7_putFor n)) (fun c l M => some (.inl (c, l, M))) (fun v M => some (.inr (v, M))) none n a0 x1 x2 x3 x4 M)
noncomputable abbrev g_X7_putFor_23 (n : Nat) (a0 : Nat) (x3 : Int32) (x4 : Int32) (x5 : Int32) (x6 : Int32) (x7 : Int32) (M : Mem) : Option (Unit × Mem) := lp (st_X7_putFor n) (23, [.ref a0, .int x3, .int x4, .int x5, .int x6, .int x7], M)
set_option maxHeartbeats 4000000 in
set_option maxRecDepth 100000 in
theorem ge_X7_putFor_23 (n : Nat) (a0 : Nat) (x3 : Int32) (x4 : Int32) (x5 : Int32) (x6 : Int32) (x7 : Int32) (M : Mem) : g_X7_putFor_23 n a0 x3 x4 x5 x6 x7 M = T_X7_putFor_23 (fun c l M => lp (st_X7_putFor n) (c, l, M)) (fun v M => some (v, M)) none n a0 x3 x4 x5 x6 x7 M := (lp_eq _ _).trans (n_X7_putFor_23 (lpK (st_X7_putFor n)) (fun c l M => some (.inl (c, l, M))) (fun v M => some (.inr (v, M))) none n a0 x3 x4 x5 x6 x7 M)
noncomputable abbrev g_X7_putFor_128 (n : Nat) (a0 : Nat) (x3 : Int32) (x4 : Int32) (x5 : Int32) (x6 : Int32) (x7 : Int32) (x8 : Int32) (xs0 : Int32) (M : Mem) : Option (Unit × Mem) := lp (st_X7_putFor n) (128, [.ref a0, .int x3, .int x4, .int x5, .int x6, .int x7, .int x8, .int xs0], M)
set_option maxHeartbeats 4000000 in
set_option maxRecDepth 100000 in
theorem ge_X7_putFor_128 (n : Nat) (a0 : Nat) (x3 : Int32) (x4 : Int32) (x5 : Int32) (x6 : Int32) (x7 : Int32) (x8 : Int32) (xs0 : Int32) (M : Mem) : g_X7_putFor_128 n a0 x3 x4 x5 x6 x7 x8 xs0 M = T_X7_putFor_128 (fun c l M => lp (st_X7_putFor n) (c, l, M)) (fun v M => some (v, M)) none n a0 x3 x4 x5 x6 x7 x8 xs0 M := (lp_eq _ _).trans (n_X7_putFor_128 (lpK (st_X7_putFor n)) (fun c l M => some (.inl (c, l, M))) (fun v M => some (.inr (v, M))) none n a0 x3 x4 x5 x6 x7 x8 xs0 M)
noncomputable def b_X7_putFor (n : Nat) (a0 : Nat) (x1 : Int32) (x2 : Int32) (x3 : Int32) (x4 : Int32) (M : Mem) : Option (Unit × Mem) := g_X7_putFor_0 n a0 x1 x2 x3 x4 M
set_option maxHeartbeats 4000000 in
set_option maxRecDepth 100000 in
theorem sb_X7_putFor {X : Nat × (Nat → Int32)} {al : Bool} {n : Nat} {a0 : Nat} {x1 : Int32} {x2 : Int32} {x3 : Int32} {x4 : Int32} {M : Mem} {v : Unit} {M1 : Mem} (h : b_X7_putFor n a0 x1 x2 x3 x4 M = some (v, M1)) : AE yX7_putFor cX7_putFor 10 none al n X [.ref a0, .int x1, .int x2, .int x3, .int x4] M none M1 := by
  refine AM.of false (by decide +kernel) (by intro h; cases h) (Nat.le_of_ble_eq_true rfl) ?_
  refine lp_snd (P := fun s r => PW_X7_putFor X al n (fun v M2 => v = none ∧ M2 = r.2) s.1 s.2.1 s.2.2) ?_ h
  clear h
  rintro ⟨c, l, M⟩ r h
  unfold st_X7_putFor at h
  rcases ite_p h with ⟨e, h⟩ | ⟨e, h⟩
  · replace e : c = 0 := e
    subst e
    obtain ⟨a0, tt0, e, h⟩ := vR_p id h
    replace e : l = _ := e
    subst e
    obtain ⟨x1, tt1, e, h⟩ := vI_p id h
    replace e : tt0 = _ := e
    subst e
    obtain ⟨x2, tt2, e, h⟩ := vI_p id h
    replace e : tt1 = _ := e
    subst e
    obtain ⟨x3, tt3, e, h⟩ := vI_p id h
    replace e : tt2 = _ := e
    subst e
    obtain ⟨x4, tt4, e, h⟩ := vI_p id h
    replace e : tt3 = _ := e
    subst e
    obtain ⟨e, h⟩ := vE_p id h
    replace e : tt4 = [] := e
    subst e
    exact w_X7_putFor_0 (J := fun c l M => PW_X7_putFor X al n (fun v M2 => v = none ∧ M2 = r.2) c l M) (R := fun v M => (v, M) = r) (fun _ _ _ h => h) (fun v M h => by cases h; exact ⟨rfl, rfl⟩) ((n_X7_putFor_0 (lpP (fun (s : Sg) (r : Unit × Mem) => PW_X7_putFor X al n (fun v M2 => v = none ∧ M2 = r.2) s.1 s.2.1 s.2.2) r) (fun c l M => some (.inl (c, l, M))) (fun v M => some (.inr (v, M))) none n a0 x1 x2 x3 x4 M).mp h)
  rcases ite_p h with ⟨e, h⟩ | ⟨e, h⟩
  · replace e : c = 23 := e
    subst e
    obtain ⟨a0, tt0, e, h⟩ := vR_p id h
    replace e : l = _ := e
    subst e
    obtain ⟨x3, tt1, e, h⟩ := vI_p id h
    replace e : tt0 = _ := e
    subst e
    obtain ⟨x4, tt2, e, h⟩ := vI_p id h
    replace e : tt1 = _ := e
    subst e
    obtain ⟨x5, tt3, e, h⟩ := vI_p id h
    replace e : tt2 = _ := e
    subst e
    obtain ⟨x6, tt4, e, h⟩ := vI_p id h
    replace e : tt3 = _ := e
    subst e
    obtain ⟨x7, tt5, e, h⟩ := vI_p id h
    replace e : tt4 = _ := e
    subst e
    obtain ⟨e, h⟩ := vE_p id h
    replace e : tt5 = [] := e
    subst e
    exact w_X7_putFor_23 (J := fun c l M => PW_X7_putFor X al n (fun v M2 => v = none ∧ M2 = r.2) c l M) (R := fun v M => (v, M) = r) (fun _ _ _ h => h) (fun v M h => by cases h; exact ⟨rfl, rfl⟩) ((n_X7_putFor_23 (lpP (fun (s : Sg) (r : Unit × Mem) => PW_X7_putFor X al n (fun v M2 => v = none ∧ M2 = r.2) s.1 s.2.1 s.2.2) r) (fun c l M => some (.inl (c, l, M))) (fun v M => some (.inr (v, M))) none n a0 x3 x4 x5 x6 x7 M).mp h)
  rcases ite_p h with ⟨e, h⟩ | ⟨e, h⟩
  · replace e : c = 128 := e
    subst e
    obtain ⟨a0, tt0, e, h⟩ := vR_p id h
    replace e : l = _ := e
    subst e
    obtain ⟨x3, tt1, e, h⟩ := vI_p id h
    replace e : tt0 = _ := e
    subst e
    obtain ⟨x4, tt2, e, h⟩ := vI_p id h
    replace e : tt1 = _ := e
    subst e
    obtain ⟨x5, tt3, e, h⟩ := vI_p id h
    replace e : tt2 = _ := e
    subst e
    obtain ⟨x6, tt4, e, h⟩ := vI_p id h
    replace e : tt3 = _ := e
    subst e
    obtain ⟨x7, tt5, e, h⟩ := vI_p id h
    replace e : tt4 = _ := e
    subst e
    obtain ⟨x8, tt6, e, h⟩ := vI_p id h
    replace e : tt5 = _ := e
    subst e
    obtain ⟨xs0, tt7, e, h⟩ := vI_p id h
    replace e : tt6 = _ := e
    subst e
    obtain ⟨e, h⟩ := vE_p id h
    replace e : tt7 = [] := e
    subst e
    exact w_X7_putFor_128 (J := fun c l M => PW_X7_putFor X al n (fun v M2 => v = none ∧ M2 = r.2) c l M) (R := fun v M => (v, M) = r) (fun _ _ _ h => h) (fun v M h => by cases h; exact ⟨rfl, rfl⟩) ((n_X7_putFor_128 (lpP (fun (s : Sg) (r : Unit × Mem) => PW_X7_putFor X al n (fun v M2 => v = none ∧ M2 = r.2) s.1 s.2.1 s.2.2) r) (fun c l M => some (.inl (c, l, M))) (fun v M => some (.inr (v, M))) none n a0 x3 x4 x5 x6 x7 x8 xs0 M).mp h)
  · exact h.elim

noncomputable abbrev f_X7_putFor := b_X7_putFor
theorem s_X7_putFor {X : Nat × (Nat → Int32)} {al : Bool} {n : Nat} {a0 : Nat} {x1 : Int32} {x2 : Int32} {x3 : Int32} {x4 : Int32} {M : Mem} {v : Unit} {M1 : Mem} (h : f_X7_putFor n a0 x1 x2 x3 x4 M = some (v, M1)) : AE yX7_putFor cX7_putFor 10 none al n X [.ref a0, .int x1, .int x2, .int x3, .int x4] M none M1 := sb_X7_putFor h
