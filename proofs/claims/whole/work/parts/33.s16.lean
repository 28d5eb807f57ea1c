/-! METHODS AS FUNCTIONS, written by wip/gen/shallow.py -/
set_option maxHeartbeats 4000000 in
set_option maxRecDepth 100000 in
noncomputable def T_X11_isEmpty_0.{u} {α : Sort u} (R : Int32 → Mem → α) (N : α) (n : Nat) (a0 : Nat) (x1 : Int32) (M : Mem) : α := gd (fO M a0 11) N (bnd (M.2.2.2.2 a0 19) N (fun r3 => gd (fA M r3 1 x1) N (if (M.2.2.1 r3 (x1.toNatClampNeg)) = 0 then R 1 M else R 0 M)))
set_option maxHeartbeats 4000000 in
set_option maxRecDepth 100000 in
theorem n_X11_isEmpty_0.{u, v} {α : Sort u} {β : Sort v} (h : α → β) (R : Int32 → Mem → α) (N : α) (n : Nat) (a0 : Nat) (x1 : Int32) (M : Mem) : h (T_X11_isEmpty_0 R N n a0 x1 M) = T_X11_isEmpty_0 (fun v M => h (R v M)) (h N) n a0 x1 M := by
  simp only [T_X11_isEmpty_0, nat_ite h, nat_gd h, nat_bnd h, nat_bnd2 h]
set_option maxHeartbeats 4000000 in
set_option maxRecDepth 100000 in
theorem w_X11_isEmpty_0 {X : Nat × (Nat → Int32)} {al : Bool} {n : Nat} {Q : Option Value → Mem → Prop} {R : Int32 → Mem → Prop} (hR : ∀ v M, R v M → Q (some (.int v)) M) {a0 : Nat} {x1 : Int32} {M : Mem} (h : T_X11_isEmpty_0 R False n a0 x1 M) : AW X (RX11, cX11_isEmpty, 2, (some .boolean), false, al, n) 0 0 0 [(0, .ref a0), (1, .int x1)] [] M Q := by
  unfold T_X11_isEmpty_0 at h
  refine a_aload_n dX11_isEmpty_0 rfl rfl ?_
  obtain ⟨⟨ga1, gs2⟩, h⟩ := gd_t h
  obtain ⟨r3, e4, h⟩ := bnd_t h
  refine a_get (v := .ref r3) dX11_isEmpty_1 fl_11_56 ga1 gs2 (gvR e4 rfl) ?_
  refine a_iload_n dX11_isEmpty_4 rfl rfl ?_
  obtain ⟨⟨ga5, gn6, gs7, gi8⟩, h⟩ := gd_t h
  refine a_iaload dX11_isEmpty_5 ga5 gs7 gi8 ?_
  refine a_if_ne 13 dX11_isEmpty_6 (by decide) (fun c9 => ?_) (fun c9 => ?_)
  · replace h := ite_f c9 h
    refine a_iconst (v := 0) dX11_isEmpty_13 (by decide) ?_
    exact a_zret dX11_isEmpty_14 rfl rfl (hR _ _ h)
  · replace h := ite_t c9 h
    refine a_iconst (v := 1) dX11_isEmpty_9 (by decide) ?_
    refine a_goto 14 dX11_isEmpty_10 (by decide) ?_
    exact a_zret dX11_isEmpty_14 rfl rfl (hR _ _ h)
noncomputable def b_X11_isEmpty (n : Nat) (a0 : Nat) (x1 : Int32) (M : Mem) : Option (Int32 × Mem) := T_X11_isEmpty_0 (fun v M => some (v, M)) none n a0 x1 M
set_option maxHeartbeats 4000000 in
set_option maxRecDepth 100000 in
theorem sb_X11_isEmpty {X : Nat × (Nat → Int32)} {al : Bool} {n : Nat} {a0 : Nat} {x1 : Int32} {M : Mem} {v : Int32} {M1 : Mem} (h : b_X11_isEmpty n a0 x1 M = some (v, M1)) : AE yX11_isEmpty cX11_isEmpty 2 (some .boolean) al n X [.ref a0, .int x1] M (some (.int v)) M1 := by
  refine AM.of false (by decide +kernel) (by intro h; cases h) (Nat.le_of_ble_eq_true rfl) ?_
  have h2 : T_X11_isEmpty_0 (fun v2 M2 => some (v2, M2) = some (v, M1)) (none = some (v, M1)) n a0 x1 M := (n_X11_isEmpty_0 (fun o => o = some (v, M1)) (fun v M => some (v, M)) none n a0 x1 M).mp h
  have h3 : ((none : Option (Int32 × Mem)) = some (v, M1)) = False := eq_false (by intro q; cases q)
  rw [h3] at h2
  exact w_X11_isEmpty_0 (fun v2 M2 h => by cases h; exact ⟨rfl, rfl⟩) h2

noncomputable abbrev f_X11_isEmpty := b_X11_isEmpty
theorem s_X11_isEmpty {X : Nat × (Nat → Int32)} {al : Bool} {n : Nat} {a0 : Nat} {x1 : Int32} {M : Mem} {v : Int32} {M1 : Mem} (h : f_X11_isEmpty n a0 x1 M = some (v, M1)) : AE yX11_isEmpty cX11_isEmpty 2 (some .boolean) al n X [.ref a0, .int x1] M (some (.int v)) M1 := sb_X11_isEmpty h
def ix_X11_count (c : Nat) : List Nat := if c = 0 then [0, 1] else if c = 45 then [0, 2, 3] else []
def PW_X11_count (X : Nat × (Nat → Int32)) (al : Bool) (n : Nat) (Q : Option Value → Mem → Prop) (c : Nat) (l : List Value) (M : Mem) : Prop := AW X (RX11, cX11_count, 4, (some .int), false, al, n) 0 0 c (List.zip (ix_X11_count c) l) (l.drop (ix_X11_count c).length) M Q
set_option maxHeartbeats 4000000 in
set_option maxRecDepth 100000 in
noncomputable def T_X11_count_0.{u} {α : Sort u} (J : Nat → List Value → Mem → α) (R : Int32 → Mem → α) (N : α) (n : Nat) (a0 : Nat) (x1 : Int32) (M : Mem) : α := gd (fO M a0 11) N (if x1 = 0 then R ((wI M a0 0 0).2.2.1 a0 15) (wI M a0 0 0) else if x1 = 1 then J 45 [.ref a0, .int 0, .int 0] (wI M a0 0 0) else if x1 = 2 then R ((wI M a0 0 0).2.2.1 a0 27) (wI M a0 0 0) else if x1 = 3 then R ((wI M a0 0 0).2.2.1 a0 47) (wI M a0 0 0) else R (-1) (wI M a0 0 0))
set_option maxHeartbeats 4000000 in
set_option maxRecDepth 100000 in
theorem n_X11_count_0.{u, v} {α : Sort u} {β : Sort v} (h : α → β) (J : Nat → List Value → Mem → α) (R : Int32 → Mem → α) (N : α) (n : Nat) (a0 : Nat) (x1 : Int32) (M : Mem) : h (T_X11_count_0 J R N n a0 x1 M) = T_X11_count_0 (fun c l M => h (J c l M)) (fun v M => h (R v M)) (h N) n a0 x1 M := by
  simp only [T_X11_count_0, nat_ite h, nat_gd h, nat_bnd h, nat_bnd2 h]
set_option maxHeartbeats 4000000 in
set_option maxRecDepth 100000 in
theorem w_X11_count_0 {X : Nat × (Nat → Int32)} {al : Bool} {n : Nat} {Q : Option Value → Mem → Prop} {J : Nat → List Value → Mem → Prop} (hJ : ∀ c l M, J c l M → PW_X11_count X al n Q c l M) {R : Int32 → Mem → Prop} (hR : ∀ v M, R v M → Q (some (.int v)) M) {a0 : Nat} {x1 : Int32} {M : Mem} (h : T_X11_count_0 J R False n a0 x1 M) : AW X (RX11, cX11_count, 4, (some .int), false, al, n) 0 0 0 [(0, .ref a0), (1, .int x1)] [] M Q := by
  unfold T_X11_count_0 at h
  refine a_aload_n dX11_count_0 rfl rfl ?_
  refine a_iconst (v := 0) dX11_count_1 (by decide) ?_
  obtain ⟨⟨ga1, gs2⟩, h⟩ := gd_t h
  refine a_putI dX11_count_2 (Or.inl ⟨fl_11_1, Or.inl rfl⟩) rfl ga1 gs2 rfl rfl ?_
  refine a_iload_n dX11_count_5 rfl rfl ?_
  by_cases c3 : x1 = 0
  · replace h := ite_t c3 h
    refine a_tableIn (off := 30) 36 dX11_count_6 (by rw [c3]; decide) (by rw [c3]; decide) (by rw [c3]; rfl) (by decide) ?_
    refine a_aload_n dX11_count_36 rfl rfl ?_
    refine a_get (v := .int ((wI M a0 0 0).2.2.1 a0 15)) dX11_count_37 fl_11_144 ga1 gs2 rfl ?_
    exact a_iret dX11_count_40 rfl (hR _ _ h)
  replace h := ite_f c3 h
  by_cases c4 : x1 = 1
  · replace h := ite_t c4 h
    refine a_tableIn (off := 35) 41 dX11_count_6 (by rw [c4]; decide) (by rw [c4]; decide) (by rw [c4]; rfl) (by decide) ?_
    refine a_iconst (v := 0) dX11_count_41 (by decide) ?_
    refine a_istore_n dX11_count_42 rfl (Nat.le_of_ble_eq_true rfl) (lv2 := [(2, .int 0), (0, .ref a0), (1, .int x1)]) rfl ?_
    refine a_iconst (v := 0) dX11_count_43 (by decide) ?_
    refine a_istore_n dX11_count_44 rfl (Nat.le_of_ble_eq_true rfl) (lv2 := [(3, .int 0), (2, .int 0), (0, .ref a0), (1, .int x1)]) rfl ?_
    exact a_lv (lv2 := [(0, .ref a0), (2, .int 0), (3, .int 0)]) (fa_cons rfl (fa_cons rfl (fa_cons rfl fa_nil))) (hJ _ _ _ h)
  replace h := ite_f c4 h
  by_cases c5 : x1 = 2
  · replace h := ite_t c5 h
    refine a_tableIn (off := 70) 76 dX11_count_6 (by rw [c5]; decide) (by rw [c5]; decide) (by rw [c5]; rfl) (by decide) ?_
    refine a_aload_n dX11_count_76 rfl rfl ?_
    refine a_get (v := .int ((wI M a0 0 0).2.2.1 a0 27)) dX11_count_77 fl_11_154 ga1 gs2 rfl ?_
    exact a_iret dX11_count_80 rfl (hR _ _ h)
  replace h := ite_f c5 h
  by_cases c6 : x1 = 3
  · replace h := ite_t c6 h
    refine a_tableIn (off := 75) 81 dX11_count_6 (by rw [c6]; decide) (by rw [c6]; decide) (by rw [c6]; rfl) (by decide) ?_
    refine a_aload_n dX11_count_81 rfl rfl ?_
    refine a_get (v := .int ((wI M a0 0 0).2.2.1 a0 47)) dX11_count_82 fl_11_358 ga1 gs2 rfl ?_
    exact a_iret dX11_count_85 rfl (hR _ _ h)
  replace h := ite_f c6 h
  refine a_tableOut 86 dX11_count_6 (by have q0 := ne_toInt (z := 0) c3 rfl; have q1 := ne_toInt (z := 1) c4 rfl; have q2 := ne_toInt (z := 2) c5 rfl; have q3 := ne_toInt (z := 3) c6 rfl; omega) (by decide) ?_
  refine a_iconst (v := -1) dX11_count_86 (by decide) ?_
  exact a_iret dX11_count_87 rfl (hR _ _ h)
set_option maxHeartbeats 4000000 in
set_option maxRecDepth 100000 in
noncomputable def T_X11_count_45.{u} {α : Sort u} (J : Nat → List Value → Mem → α) (R : Int32 → Mem → α) (N : α) (n : Nat) (a0 : Nat) (x2 : Int32) (x3 : Int32) (M : Mem) : α := if 4 ≤ x3 then R x2 M else gd (fO M a0 11) N (bnd2 (cal n (fun n => f_X11_isEmpty n a0 x3 M)) N (fun v4 M5 => if v4 = 0 then J 45 [.ref a0, .int (x2 ||| ((1 : Int32) <<< (x3 &&& 31))), .int (x3 + 1)] M5 else J 45 [.ref a0, .int (x2 ||| 0), .int (x3 + 1)] M5))
set_option maxHeartbeats 4000000 in
set_option maxRecDepth 100000 in
theorem n_X11_count_45.{u, v} {α : Sort u} {β : Sort v} (h : α → β) (J : Nat → List Value → Mem → α) (R : Int32 → Mem → α) (N : α) (n : Nat) (a0 : Nat) (x2 : Int32) (x3 : Int32) (M : Mem) : h (T_X11_count_45 J R N n a0 x2 x3 M) = T_X11_count_45 (fun c l M => h (J c l M)) (fun v M => h (R v M)) (h N) n a0 x2 x3 M := by
  simp only [T_X11_count_45, nat_ite h, nat_gd h, nat_bnd h, nat_bnd2 h]
set_option maxHeartbeats 4000000 in
set_option maxRecDepth 100000 in
theorem w_X11_count_45 {X : Nat × (Nat → Int32)} {al : Bool} {n : Nat} {Q : Option Value → Mem → Prop} {J : Nat → List Value → Mem → Prop} (hJ : ∀ c l M, J c l M → PW_X11_count X al n Q c l M) {R : Int32 → Mem → Prop} (hR : ∀ v M, R v M → Q (some (.int v)) M) {a0 : Nat} {x2 : Int32} {x3 : Int32} {M : Mem} (h : T_X11_count_45 J R False n a0 x2 x3 M) : AW X (RX11, cX11_count, 4, (some .int), false, al, n) 0 0 45 [(0, .ref a0), (2, .int x2), (3, .int x3)] [] M Q := by
  unfold T_X11_count_45 at h
  refine a_iload_n dX11_count_45 rfl rfl ?_
  refine a_iconst (v := 4) dX11_count_46 (by decide) ?_
  refine a_icmp_ge 74 dX11_count_47 (by decide) (fun c1 => ?_) (fun c1 => ?_)
  · replace h := ite_t c1 h
    refine a_iload_n dX11_count_74 rfl rfl ?_
    exact a_iret dX11_count_75 rfl (hR _ _ h)
  · replace h := ite_f c1 h
    refine a_iload_n dX11_count_50 rfl rfl ?_
    refine a_aload_n dX11_count_51 rfl rfl ?_
    refine a_iload_n dX11_count_52 rfl rfl ?_
    obtain ⟨⟨ga2, gs3⟩, h⟩ := gd_t h
    obtain ⟨v4, M5, e6, h⟩ := bnd2_t h
    obtain ⟨n7, en8, e6⟩ := cal_t e6
    refine e_callV (As := [.int x3]) (st := [.int x2]) (a := a0) (ci := 11) false dX11_count_53 mw_X11_isEmpty (Or.inl ⟨rfl, ml_X11_343⟩) im_X11_isEmpty se_X11_isEmpty (by decide) ga2 gs3 rfl (Nat.le_of_ble_eq_true rfl) en8 (s_X11_isEmpty e6) ?_
    refine a_if_eq 63 dX11_count_56 (by decide) (fun c9 => ?_) (fun c9 => ?_)
    · replace h := ite_t c9 h
      refine a_iconst (v := 1) dX11_count_63 (by decide) ?_
      refine a_iload_n dX11_count_64 rfl rfl ?_
      refine a_ishl dX11_count_65 ?_
      refine a_ior dX11_count_66 ?_
      refine a_istore_n dX11_count_67 rfl (Nat.le_of_ble_eq_true rfl) (lv2 := [(2, .int (x2 ||| ((1 : Int32) <<< (x3 &&& 31)))), (0, .ref a0), (3, .int x3)]) rfl ?_
      refine a_iinc (v := (x3 + 1)) dX11_count_68 rfl (by first | rfl | decide) (Nat.le_of_ble_eq_true rfl) (lv2 := [(3, .int (x3 + 1)), (2, .int (x2 ||| ((1 : Int32) <<< (x3 &&& 31)))), (0, .ref a0)]) rfl ?_
      refine a_goto 45 dX11_count_71 (by decide) ?_
      exact a_lv (lv2 := [(0, .ref a0), (2, .int (x2 ||| ((1 : Int32) <<< (x3 &&& 31)))), (3, .int (x3 + 1))]) (fa_cons rfl (fa_cons rfl (fa_cons rfl fa_nil))) (hJ _ _ _ h)
    · replace h := ite_f c9 h
      refine a_iconst (v := 0) dX11_count_59 (by decide) ?_
      refine a_goto 66 dX11_count_60 (by decide) ?_
      refine a_ior dX11_count_66 ?_
      refine a_istore_n dX11_count_67 rfl (Nat.le_of_ble_eq_true rfl) (lv2 := [(2, .int (x2 ||| 0)), (0, .ref a0), (3, .int x3)]) rfl ?_
      refine a_iinc (v := (x3 + 1)) dX11_count_68 rfl (by first | rfl | decide) (Nat.le_of_ble_eq_true rfl) (lv2 := [(3, .int (x3 + 1)), (2, .int (x2 ||| 0)), (0, .ref a0)]) rfl ?_
      refine a_goto 45 dX11_count_71 (by decide) ?_
      exact a_lv (lv2 := [(0, .ref a0), (2, .int (x2 ||| 0)), (3, .int (x3 + 1))]) (fa_cons rfl (fa_cons rfl (fa_cons rfl fa_nil))) (hJ _ _ _ h)
set_option maxHeartbeats 4000000 in
set_option maxRecDepth 100000 in
noncomputable def st_X11_count (n : Nat) (s : Sg) : Option (Sg ⊕ (Int32 × Mem)) := if s.1 = 0 then vR s.2.1 none (fun a0 t => vI t none (fun x1 t => vE t none (T_X11_count_0 (fun c l M => some (.inl (c, l, M))) (fun v M => some (.inr (v, M))) none n a0 x1 s.2.2))) else if s.1 = 45 then vR s.2.1 none (fun a0 t => vI t none (fun x2 t => vI t none (fun x3 t => vE t none (T_X11_count_45 (fun c l M => some (.inl (c, l, M))) (fun v M => some (.inr (v, M))) none n a0 x2 x3 s.2.2)))) else none
noncomputable abbrev g_X11_count_0 (n : Nat) (a0 : Nat) (x1 : Int32) (M : Mem) : Option (Int32 × Mem) := lp (st_X11_count n) (0, [.ref a0, .int x1], M)
set_option maxHeartbeats 4000000 in
set_option maxRecDepth 100000 in
theorem ge_X11_count_0 (n : Nat) (a0 : Nat) (x1 : Int32) (M : Mem) : g_X11_count_0 n a0 x1 M = T_X11_count_0 (fun c l M => lp (st_X11_count n) (c, l, M)) (fun v M => some (v, M)) none n a0 x1 M := (lp_eq _ _).trans (n_X11_count_0 (lpK (st_X11_count n)) (fun c l M => some (.inl (c, l, M))) (fun v M => some (.inr (v, M))) none n a0 x1 M)
noncomputable abbrev g_X11_count_45 (n : Nat) (a0 : Nat) (x2 : Int32) (x3 : Int32) (M : Mem) : Option (Int32 × Mem) := lp (st_X11_count n) (45, [.ref a0, .int x2, .int x3], M)
set_option maxHeartbeats 4000000 in
set_option maxRecDepth 100000 in
theorem ge_X11_count_45 (n : Nat) (a0 : Nat) (x2 : Int32) (x3 : Int32) (M : Mem) : g_X11_count_45 n a0 x2 x3 M = T_X11_count_45 (fun c l M => lp (st_X11_count n) (c, l, M)) (fun v M => some (v, M)) none n a0 x2 x3 M := (lp_eq _ _).trans (n_X11_count_45 (lpK (st_X11_count n)) (fun c l M => some (.inl (c, l, M))) (fun v M => some (.inr (v, M))) none n a0 x2 x3 M)
noncomputable def b_X11_count (n : Nat) (a0 : Nat) (x1 : Int32) (M : Mem) : Option (Int32 × Mem) := g_X11_count_0 n a0 x1 M
set_option maxHeartbeats 4000000 in
set_option maxRecDepth 100000 in
theorem sb_X11_count {X : Nat × (Nat → Int32)} {al : Bool} {n : Nat} {a0 : Nat} {x1 : Int32} {M : Mem} {v : Int32} {M1 : Mem} (h : b_X11_count n a0 x1 M = some (v, M1)) : AE yX11_count cX11_count 4 (some .int) al n X [.ref a0, .int x1] M (some (.int v)) M1 := by
  refine AM.of false (by decide +kernel) (by intro h; cases h) (Nat.le_of_ble_eq_true rfl) ?_
  refine lp_snd (P := fun s r => PW_X11_count X al n (fun v M2 => v = (some (.int r.1)) ∧ M2 = r.2) s.1 s.2.1 s.2.2) ?_ h
  clear h
  rintro ⟨c, l, M⟩ r h
  unfold st_X11_count at h
  rcases ite_p h with ⟨e, h⟩ | ⟨e, h⟩
  · replace e : c = 0 := e
    subst e
    obtain ⟨a0, tt0, e, h⟩ := vR_p id h
    replace e : l = _ := e
    subst e
    obtain ⟨x1, tt1, e, h⟩ := vI_p id h
    replace e : tt0 = _ := e
    subst e
    obtain ⟨e, h⟩ := vE_p id h
    replace e : tt1 = [] := e
    subst e
    exact w_X11_count_0 (J := fun c l M => PW_X11_count X al n (fun v M2 => v = (some (.int r.1)) ∧ M2 = r.2) c l M) (R := fun v M => (v, M) = r) (fun _ _ _ h => h) (fun v M h => by cases h; exact ⟨rfl, rfl⟩) ((n_X11_count_0 (lpP (fun (s : Sg) (r : Int32 × Mem) => PW_X11_count X al n (fun v M2 => v = (some (.int r.1)) ∧ M2 = r.2) s.1 s.2.1 s.2.2) r) (fun c l M => some (.inl (c, l, M))) (fun v M => some (.inr (v, M))) none n a0 x1 M).mp h)
  rcases ite_p h with ⟨e, h⟩ | ⟨e, h⟩
  · replace e : c = 45 := e
    subst e
    obtain ⟨a0, tt0, e, h⟩ := vR_p id h
    replace e : l = _ := e
    subst e
    obtain ⟨x2, tt1, e, h⟩ := vI_p id h
    replace e : tt0 = _ := e
    subst e
    obtain ⟨x3, tt2, e, h⟩ := vI_p id h
    replace e : tt1 = _ := e
    subst e
    obtain ⟨e, h⟩ := vE_p id h
    replace e : tt2 = [] := e
    subst e
    exact w_X11_count_45 (J := fun c l M => PW_X11_count X al n (fun v M2 => v = (some (.int r.1)) ∧ M2 = r.2) c l M) (R := fun v M => (v, M) = r) (fun _ _ _ h => h) (fun v M h => by cases h; exact ⟨rfl, rfl⟩) ((n_X11_count_45 (lpP (fun (s : Sg) (r : Int32 × Mem) => PW_X11_count X al n (fun v M2 => v = (some (.int r.1)) ∧ M2 = r.2) s.1 s.2.1 s.2.2) r) (fun c l M => some (.inl (c, l, M))) (fun v M => some (.inr (v, M))) none n a0 x2 x3 M).mp h)
  · exact h.elim

noncomputable abbrev f_X11_count := b_X11_count
theorem s_X11_count {X : Nat × (Nat → Int32)} {al : Bool} {n : Nat} {a0 : Nat} {x1 : Int32} {M : Mem} {v : Int32} {M1 : Mem} (h : f_X11_count n a0 x1 M = some (v, M1)) : AE yX11_count cX11_count 4 (some .int) al n X [.ref a0, .int x1] M (some (.int v)) M1 := sb_X11_count h
set_option maxHeartbeats 4000000 in
set_option maxRecDepth 100000 in
noncomputable def T_X2_nameOf_0.{u} {α : Sort u} (R : Int32 → Mem → α) (N : α) (n : Nat) (a0 : Nat) (x1 : Int32) (M : Mem) : α := if x1 < 0 then R 0 M else gd (fO M a0 2) N (if (M.2.2.1 a0 3) ≤ x1 then R 0 M else if 6 ≤ x1 then R 0 M else bnd (M.2.2.2.2 a0 0) N (fun r6 => gd (fA M r6 1 x1) N (R (M.2.2.1 r6 (x1.toNatClampNeg)) M)))
set_option maxHeartbeats 4000000 in
set_option maxRecDepth 100000 in
theorem n_X2_nameOf_0.{u, v} {α : Sort u} {β : Sort v} (h : α → β) (R : Int32 → Mem → α) (N : α) (n : Nat) (a0 : Nat) (x1 : Int32) (M : Mem) : h (T_X2_nameOf_0 R N n a0 x1 M) = T_X2_nameOf_0 (fun v M => h (R v M)) (h N) n a0 x1 M := by
  simp only [T_X2_nameOf_0, nat_ite h, nat_gd h, nat_bnd h, nat_bnd2 h]
set_option maxHeartbeats 4000000 in
set_option maxRecDepth 100000 in
theorem w_X2_nameOf_0 {X : Nat × (Nat → Int32)} {al : Bool} {n : Nat} {Q : Option Value → Mem → Prop} {R : Int32 → Mem → Prop} (hR : ∀ v M, R v M → Q (some (.int v)) M) {a0 : Nat} {x1 : Int32} {M : Mem} (h : T_X2_nameOf_0 R False n a0 x1 M) : AW X (RX2, cX2_nameOf, 2, (some .int), false, al, n) 0 0 0 [(0, .ref a0), (1, .int x1)] [] M Q := by
  unfold T_X2_nameOf_0 at h
  refine a_iload_n dX2_nameOf_0 rfl rfl ?_
  refine a_if_lt 27 dX2_nameOf_1 (by decide) (fun c1 => ?_) (fun c1 => ?_)
  · replace h := ite_t c1 h
    refine a_iconst (v := 0) dX2_nameOf_27 (by decide) ?_
    exact a_iret dX2_nameOf_28 rfl (hR _ _ h)
  · replace h := ite_f c1 h
    refine a_iload_n dX2_nameOf_4 rfl rfl ?_
    refine a_aload_n dX2_nameOf_5 rfl rfl ?_
    obtain ⟨⟨ga2, gs3⟩, h⟩ := gd_t h
    refine a_get (v := .int (M.2.2.1 a0 3)) dX2_nameOf_6 fl_2_21 ga2 gs3 rfl ?_
    refine a_icmp_ge 27 dX2_nameOf_9 (by decide) (fun c4 => ?_) (fun c4 => ?_)
    · replace h := ite_t c4 h
      refine a_iconst (v := 0) dX2_nameOf_27 (by decide) ?_
      exact a_iret dX2_nameOf_28 rfl (hR _ _ h)
    · replace h := ite_f c4 h
      refine a_iload_n dX2_nameOf_12 rfl rfl ?_
      refine a_bipush (v := 6) dX2_nameOf_13 (by decide) ?_
      refine a_icmp_ge 27 dX2_nameOf_15 (by decide) (fun c5 => ?_) (fun c5 => ?_)
      · replace h := ite_t c5 h
        refine a_iconst (v := 0) dX2_nameOf_27 (by decide) ?_
        exact a_iret dX2_nameOf_28 rfl (hR _ _ h)
      · replace h := ite_f c5 h
        refine a_aload_n dX2_nameOf_18 rfl rfl ?_
        obtain ⟨r6, e7, h⟩ := bnd_t h
        refine a_get (v := .ref r6) dX2_nameOf_19 fl_2_9 ga2 gs3 (gvR e7 rfl) ?_
        refine a_iload_n dX2_nameOf_22 rfl rfl ?_
        obtain ⟨⟨ga8, gn9, gs10, gi11⟩, h⟩ := gd_t h
        refine a_iaload dX2_nameOf_23 ga8 gs10 gi11 ?_
        refine a_goto 28 dX2_nameOf_24 (by decide) ?_
        exact a_iret dX2_nameOf_28 rfl (hR _ _ h)
noncomputable def b_X2_nameOf (n : Nat) (a0 : Nat) (x1 : Int32) (M : Mem) : Option (Int32 × Mem) := T_X2_nameOf_0 (fun v M => some (v, M)) none n a0 x1 M
set_option maxHeartbeats 4000000 in
set_option maxRecDepth 100000 in
theorem sb_X2_nameOf {X : Nat × (Nat → Int32)} {al : Bool} {n : Nat} {a0 : Nat} {x1 : Int32} {M : Mem} {v : Int32} {M1 : Mem} (h : b_X2_nameOf n a0 x1 M = some (v, M1)) : AE yX2_nameOf cX2_nameOf 2 (some .int) al n X [.ref a0, .int x1] M (some (.int v)) M1 := by
  refine AM.of false (by decide +kernel) (by intro h; cases h) (Nat.le_of_ble_eq_true rfl) ?_
  have h2 : T_X2_nameOf_0 (fun v2 M2 => some (v2, M2) = some (v, M1)) (none = some (v, M1)) n a0 x1 M := (n_X2_nameOf_0 (fun o => o = some (v, M1)) (fun v M => some (v, M)) none n a0 x1 M).mp h
  have h3 : ((none : Option (Int32 × Mem)) = some (v, M1)) = False := eq_false (by intro q; cases q)
  rw [h3] at h2
  exact w_X2_nameOf_0 (fun v2 M2 h => by cases h; exact ⟨rfl, rfl⟩) h2

noncomputable abbrev f_X2_nameOf := b_X2_nameOf
theorem s_X2_nameOf {X : Nat × (Nat → Int32)} {al : Bool} {n : Nat} {a0 : Nat} {x1 : Int32} {M : Mem} {v : Int32} {M1 : Mem} (h : f_X2_nameOf n a0 x1 M = some (v, M1)) : AE yX2_nameOf cX2_nameOf 2 (some .int) al n X [.ref a0, .int x1] M (some (.int v)) M1 := sb_X2_nameOf h
set_option maxHeartbeats 4000000 in
set_option maxRecDepth 100000 in
noncomputable def T_X10_wordLetter_0.{u} {α : Sort u} (R : Int32 → Mem → α) (N : α) (n : Nat) (x0 : Int32) (x1 : Int32) (M : Mem) : α := if x1 < 0 then R (-1) M else bnd2 (cal n (fun n => f_X10_wordLength n x0 M)) N (fun v2 M3 => if x1 < v2 then gd (4 ≤ n ∧ vp_in ((x0 * 5) + x1) 110) N (R (tch 0 ((x0 * 5) + x1).toNatClampNeg) M3) else R (-1) M3)
set_option maxHeartbeats 4000000 in
set_option maxRecDepth 100000 in
theorem n_X10_wordLetter_0.{u, v} {α : Sort u} {β : Sort v} (h : α → β) (R : Int32 → Mem → α) (N : α) (n : Nat) (x0 : Int32) (x1 : Int32) (M : Mem) : h (T_X10_wordLetter_0 R N n x0 x1 M) = T_X10_wordLetter_0 (fun v M => h (R v M)) (h N) n x0 x1 M := by
  simp only [T_X10_wordLetter_0, nat_ite h, nat_gd h, nat_bnd h, nat_bnd2 h]
set_option maxHeartbeats 4000000 in
set_option maxRecDepth 100000 in
theorem w_X10_wordLetter_0 {X : Nat × (Nat → Int32)} {al : Bool} {n : Nat} {Q : Option Value → Mem → Prop} {R : Int32 → Mem → Prop} (hR : ∀ v M, R v M → Q (some (.int v)) M) {x0 : Int32} {x1 : Int32} {M : Mem} (h : T_X10_wordLetter_0 R False n x0 x1 M) : AW X (RX10, cX10_wordLetter, 2, (some .int), false, al, n) 0 0 0 [(0, .int x0), (1, .int x1)] [] M Q := by
  unfold T_X10_wordLetter_0 at h
  refine a_iload_n dX10_wordLetter_0 rfl rfl ?_
  refine a_if_lt 12 dX10_wordLetter_1 (by decide) (fun c1 => ?_) (fun c1 => ?_)
  · replace h := ite_t c1 h
    refine a_iconst (v := -1) dX10_wordLetter_12 (by decide) ?_
    exact a_iret dX10_wordLetter_13 rfl (hR _ _ h)
  · replace h := ite_f c1 h
    refine a_iload_n dX10_wordLetter_4 rfl rfl ?_
    refine a_iload_n dX10_wordLetter_5 rfl rfl ?_
    obtain ⟨v2, M3, e4, h⟩ := bnd2_t h
    obtain ⟨n5, en6, e4⟩ := cal_t e4
    refine e_callS (As := [.int x0]) (st := [.int x1]) false dX10_wordLetter_6 mw_X10_wordLength (Or.inl ⟨rfl, ml_X10_339⟩) sm_X10_wordLength rfl (Nat.le_of_ble_eq_true rfl) en6 (s_X10_wordLength e4) ?_
    refine a_icmp_lt 14 dX10_wordLetter_9 (by decide) (fun c7 => ?_) (fun c7 => ?_)
    · replace h := ite_t c7 h
      refine a_ldcA dX10_wordLetter_14 rfl ?_
      refine a_iload_n dX10_wordLetter_17 rfl rfl ?_
      refine a_iconst (v := 5) dX10_wordLetter_18 (by decide) ?_
      refine a_imul dX10_wordLetter_19 ?_
      refine a_iload_n dX10_wordLetter_20 rfl rfl ?_
      refine a_iadd dX10_wordLetter_21 ?_
      obtain ⟨⟨gf8, gi11⟩, h⟩ := gd_t h
      obtain ⟨n9, en10⟩ : ∃ k, n = k + 4 := ⟨n - 4, by omega⟩
      refine e_callT (As := [.int ((x0 * 5) + x1)]) (st := []) (i := 0) dX10_wordLetter_22 mw_J0_charAt_5068e ml_X10_344 im_J0_charAt_5068e se_J0_charAt_5068e (by decide) rfl (Nat.le_of_ble_eq_true rfl) en10 (k_charAt0 gi11) ?_
      exact a_iret dX10_wordLetter_25 rfl (hR _ _ h)
    · replace h := ite_f c7 h
      refine a_iconst (v := -1) dX10_wordLetter_12 (by decide) ?_
      exact a_iret dX10_wordLetter_13 rfl (hR _ _ h)
noncomputable def b_X10_wordLetter (n : Nat) (x0 : Int32) (x1 : Int32) (M : Mem) : Option (Int32 × Mem) := T_X10_wordLetter_0 (fun v M => some (v, M)) none n x0 x1 M
set_option maxHeartbeats 4000000 in
set_option maxRecDepth 100000 in
theorem sb_X10_wordLetter {X : Nat × (Nat → Int32)} {al : Bool} {n : Nat} {x0 : Int32} {x1 : Int32} {M : Mem} {v : Int32} {M1 : Mem} (h : b_X10_wordLetter n x0 x1 M = some (v, M1)) : AE yX10_wordLetter cX10_wordLetter 2 (some .int) al n X [.int x0, .int x1] M (some (.int v)) M1 := by
  refine AM.of false (by decide +kernel) (by intro h; cases h) (Nat.le_of_ble_eq_true rfl) ?_
  have h2 : T_X10_wordLetter_0 (fun v2 M2 => some (v2, M2) = some (v, M1)) (none = some (v, M1)) n x0 x1 M := (n_X10_wordLetter_0 (fun o => o = some (v, M1)) (fun v M => some (v, M)) none n x0 x1 M).mp h
  have h3 : ((none : Option (Int32 × Mem)) = some (v, M1)) = False := eq_false (by intro q; cases q)
  rw [h3] at h2
  exact w_X10_wordLetter_0 (fun v2 M2 h => by cases h; exact ⟨rfl, rfl⟩) h2

noncomputable abbrev f_X10_wordLetter := b_X10_wordLetter
theorem s_X10_wordLetter {X : Nat × (Nat → Int32)} {al : Bool} {n : Nat} {x0 : Int32} {x1 : Int32} {M : Mem} {v : Int32} {M1 : Mem} (h : f_X10_wordLetter n x0 x1 M = some (v, M1)) : AE yX10_wordLetter cX10_wordLetter 2 (some .int) al n X [.int x0, .int x1] M (some (.int v)) M1 := sb_X10_wordLetter h
def ix_X1_byteAt (c : Nat) : List Nat := if c = 0 then [0, 1, 2] else if c = 30 then [0, 4, 5, 7] else []
def PW_X1_byteAt (X : Nat × (Nat → Int32)) (al : Bool) (n : Nat) (Q : Option Value → Mem → Prop) (c : Nat) (l : List Value) (M : Mem) : Prop := AW X (RX1, cX1_byteAt, 12, (some .int), false, al, n) 0 0 c (List.zip (ix_X1_byteAt c) l) (l.drop (ix_X1_byteAt c).length) M Q
set_option maxHeartbeats 4000000 in
set_option maxRecDepth 100000 in
noncomputable def T_X1_byteAt_0.{u} {α : Sort u} (J : Nat → List Value → Mem → α) (R : Int32 → Mem → α) (N : α) (n : Nat) (a0 : Nat) (x1 : Int32) (j2 : Int64) (M : Mem) : α := if (lg_cmp j2 0) < 0 then R (-1) M else gd (fO M a0 1) N (bnd2 (cal n (fun n => f_X1_bytesOf n a0 x1 M)) N (fun v4 M5 => if (lg_cmp j2 v4) < 0 then J 30 [.ref a0, .int x1, .long j2, .int 0] M5 else R (-1) M5))
set_option maxHeartbeats 4000000 in
set_option maxRecDepth 100000 in
theorem n_X1_byteAt_0.{u, v} {α : Sort u} {β : Sort v} (h : α → β) (J : Nat → List Value → Mem → α) (R : Int32 → Mem → α) (N : α) (n : Nat) (a0 : Nat) (x1 : Int32) (j2 : Int64) (M : Mem) : h (T_X1_byteAt_0 J R N n a0 x1 j2 M) = T_X1_byteAt_0 (fun c l M => h (J c l M)) (fun v M => h (R v M)) (h N) n a0 x1 j2 M := by
  simp only [T_X1_byteAt_0, nat_ite h, nat_gd h, nat_bnd h, nat_bnd2 h]
set_option maxHeartbeats 4000000 in
set_option maxRecDepth 100000 in
theorem w_X1_byteAt_0 {X : Nat × (Nat → Int32)} {al : Bool} {n : Nat} {Q : Option Value → Mem → Prop} {J : Nat → List Value → Mem → Prop} (hJ : ∀ c l M, J c l M → PW_X1_byteAt X al n Q c l M) {R : Int32 → Mem → Prop} (hR : ∀ v M, R v M → Q (some (.int v)) M) {a0 : Nat} {x1 : Int32} {j2 : Int64} {M : Mem} (h : T_X1_byteAt_0 J R False n a0 x1 j2 M) : AW X (RX1, cX1_byteAt, 12, (some .int), false, al, n) 0 0 0 [(0, .ref a0), (1, .int x1), (2, .long j2)] [] M Q := by
  unfold T_X1_byteAt_0 at h
  refine a_iload_n dX1_byteAt_0 rfl rfl ?_
  refine a_istore dX1_byteAt_1 (Nat.le_of_ble_eq_true rfl) (lv2 := [(4, .int x1), (0, .ref a0), (1, .int x1), (2, .long j2)]) rfl ?_
  refine a_lload_n dX1_byteAt_3 rfl rfl ?_
  refine a_lstore dX1_byteAt_4 (Nat.le_of_ble_eq_true rfl) (lv2 := [(5, .long j2), (4, .int x1), (0, .ref a0), (1, .int x1), (2, .long j2)]) rfl ?_
  refine a_lload dX1_byteAt_6 rfl ?_
  refine a_lconst (v := 0) dX1_byteAt_8 (by decide) ?_
  refine a_lcmp dX1_byteAt_9 ?_
  refine a_if_lt 25 dX1_byteAt_10 (by decide) (fun c1 => ?_) (fun c1 => ?_)
  · replace h := ite_t c1 h
    refine a_iconst (v := -1) dX1_byteAt_25 (by decide) ?_
    exact a_iret dX1_byteAt_26 rfl (hR _ _ h)
  · replace h := ite_f c1 h
    refine a_lload dX1_byteAt_13 rfl ?_
    refine a_aload_n dX1_byteAt_15 rfl rfl ?_
    refine a_iload dX1_byteAt_16 rfl ?_
    obtain ⟨⟨ga2, gs3⟩, h⟩ := gd_t h
    obtain ⟨v4, M5, e6, h⟩ := bnd2_t h
    obtain ⟨n7, en8, e6⟩ := cal_t e6
    refine e_callV (As := [.int x1]) (st := [.long j2]) (a := a0) (ci := 1) false dX1_byteAt_18 mw_X1_bytesOf (Or.inl ⟨rfl, ml_X1_42⟩) im_X1_bytesOf se_X1_bytesOf (by decide) ga2 gs3 rfl (Nat.le_of_ble_eq_true rfl) en8 (s_X1_bytesOf e6) ?_
    refine a_lcmp dX1_byteAt_21 ?_
    refine a_if_lt 27 dX1_byteAt_22 (by decide) (fun c9 => ?_) (fun c9 => ?_)
    · replace h := ite_t c9 h
      refine a_iconst (v := 0) dX1_byteAt_27 (by decide) ?_
      refine a_istore dX1_byteAt_28 (Nat.le_of_ble_eq_true rfl) (lv2 := [(7, .int 0), (5, .long j2), (4, .int x1), (0, .ref a0), (1, .int x1), (2, .long j2)]) rfl ?_
      exact a_lv (lv2 := [(0, .ref a0), (4, .int x1), (5, .long j2), (7, .int 0)]) (fa_cons rfl (fa_cons rfl (fa_cons rfl (fa_cons rfl fa_nil)))) (hJ _ _ _ h)
    · replace h := ite_f c9 h
      refine a_iconst (v := -1) dX1_byteAt_25 (by decide) ?_
      exact a_iret dX1_byteAt_26 rfl (hR _ _ h)
set_option maxHeartbeats 4000000 in
set_option maxRecDepth 100000 in
noncomputable def T_X1_byteAt_30.{u} {α : Sort u} (J : Nat → List Value → Mem → α) (R : Int32 → Mem → α) (N : α) (n : Nat) (a0 : Nat) (x4 : Int32) (j5 : Int64) (x7 : Int32) (M : Mem) : α := if 5200 ≤ x7 then R (-1) M else gd (fO M a0 1) N (bnd2 (cal n (fun n => f_X1_kindOf n a0 x4 M)) N (fun v4 M5 => bnd2 (cal n (fun n => f_X10_wordLength n v4 M5)) N (fun v9 M10 => if 0 ≤ (lg_cmp j5 (Int32.toInt64 v9)) then if (lg_cmp ((j5 - (Int32.toInt64 v9)) - 1) 0) < 0 then R 32 M10 else gd (fO M10 a0 1) N (bnd2 (cal n (fun n => f_X1_leftOf n a0 x4 M10)) N (fun v18 M19 => gd (fO M19 a0 1) N (bnd2 (cal n (fun n => f_X1_bytesOf n a0 v18 M19)) N (fun v25 M26 => if (lg_cmp ((j5 - (Int32.toInt64 v9)) - 1) v25) = 0 then R 32 M26 else gd (fO M26 a0 1) N (bnd2 (cal n (fun n => f_X1_leftOf n a0 x4 M26)) N (fun v33 M34 => gd (fO M34 a0 1) N (bnd2 (cal n (fun n => f_X1_bytesOf n a0 v33 M34)) N (fun v40 M41 => if 0 ≤ (lg_cmp ((j5 - (Int32.toInt64 v9)) - 1) v40) then gd (fO M41 a0 1) N (bnd2 (cal n (fun n => f_X1_leftOf n a0 x4 M41)) N (fun v48 M49 => gd (fO M49 a0 1) N (bnd2 (cal n (fun n => f_X1_bytesOf n a0 v48 M49)) N (fun v55 M56 => gd (fO M56 a0 1) N (bnd2 (cal n (fun n => f_X1_rightOf n a0 x4 M56)) N (fun v62 M63 => J 30 [.ref a0, .int v62, .long ((((j5 - (Int32.toInt64 v9)) - 1) - v55) - 1), .int (x7 + 1)] M63)))))) else gd (fO M41 a0 1) N (bnd2 (cal n (fun n => f_X1_leftOf n a0 x4 M41)) N (fun v69 M70 => J 30 [.ref a0, .int v69, .long ((j5 - (Int32.toInt64 v9)) - 1), .int (x7 + 1)] M70)))))))))) else bnd2 (cal n (fun n => f_X10_wordLetter n v4 (Int64.toInt32 j5) M10)) N (fun v74 M75 => R v74 M75))))
set_option maxHeartbeats 4000000 in
set_option maxRecDepth 100000 in
theorem n_X1_byteAt_30.{u, v} {α : Sort u} {β : Sort v} (h : α → β) (J : Nat → List Value → Mem → α) (R : Int32 → Mem → α) (N : α) (n : Nat) (a0 : Nat) (x4 : Int32) (j5 : Int64) (x7 : Int32) (M : Mem) : h (T_X1_byteAt_30 J R N n a0 x4 j5 x7 M) = T_X1_byteAt_30 (fun c l M => h (J c l M)) (fun v M => h (R v M)) (h N) n a0 x4 j5 x7 M := by
  simp only [T_X1_byteAt_30, nat_ite h, nat_gd h, nat_bnd h, nat_bnd2 h]
set_option maxHeartbeats 4000000 in
set_option maxRecDepth 100000 in
theorem w_X1_byteAt_30 {X : Nat × (Nat → Int32)} {al : Bool} {n : Nat} {Q : Option Value → Mem → Prop} {J : Nat → List Value → Mem → Prop} (hJ : ∀ c l M, J c l M → PW_X1_byteAt X al n Q c l M) {R : Int32 → Mem → Prop} (hR : ∀ v M, R v M → Q (some (.int v)) M) {a0 : Nat} {x4 : Int32} {j5 : Int64} {x7 : Int32} {M : Mem} (h : T_X1_byteAt_30 J R False n a0 x4 j5 x7 M) : AW X (RX1, cX1_byteAt, 12, (some .int), false, al, n) 0 0 30 [(0, .ref a0), (4, .int x4), (5, .long j5), (7, .int x7)] [] M Q := by
  unfold T_X1_byteAt_30 at h
  refine a_iload dX1_byteAt_30 rfl ?_
  refine a_sipush (v := 5200) dX1_byteAt_32 (by decide) ?_
  refine a_icmp_ge 169 dX1_byteAt_35 (by decide) (fun c1 => ?_) (fun c1 => ?_)
  · replace h := ite_t c1 h
    refine a_iconst (v := -1) dX1_byteAt_169 (by decide) ?_
    exact a_iret dX1_byteAt_170 rfl (hR _ _ h)
  · replace h := ite_f c1 h
    refine a_aload_n dX1_byteAt_38 rfl rfl ?_
    refine a_iload dX1_byteAt_39 rfl ?_
    obtain ⟨⟨ga2, gs3⟩, h⟩ := gd_t h
    obtain ⟨v4, M5, e6, h⟩ := bnd2_t h
    obtain ⟨n7, en8, e6⟩ := cal_t e6
    refine e_callV (As := [.int x4]) (st := []) (a := a0) (ci := 1) false dX1_byteAt_41 mw_X1_kindOf (Or.inl ⟨rfl, ml_X1_46⟩) im_X1_kindOf se_X1_kindOf (by decide) ga2 gs3 rfl (Nat.le_of_ble_eq_true rfl) en8 (s_X1_kindOf e6) ?_
    refine a_istore dX1_byteAt_44 (Nat.le_of_ble_eq_true rfl) (lv2 := [(8, .int v4), (0, .ref a0), (4, .int x4), (5, .long j5), (7, .int x7)]) rfl ?_
    refine a_iload dX1_byteAt_46 rfl ?_
    obtain ⟨v9, M10, e11, h⟩ := bnd2_t h
    obtain ⟨n12, en13, e11⟩ := cal_t e11
    refine e_callS (As := [.int v4]) (st := []) true dX1_byteAt_48 mw_X10_wordLength (Or.inr ⟨rfl, mn_X1_34⟩) sm_X10_wordLength rfl (Nat.le_of_ble_eq_true rfl) en13 (s_X10_wordLength e11) ?_
    refine a_istore dX1_byteAt_51 (Nat.le_of_ble_eq_true rfl) (lv2 := [(9, .int v9), (8, .int v4), (0, .ref a0), (4, .int x4), (5, .long j5), (7, .int x7)]) rfl ?_
    refine a_lload dX1_byteAt_53 rfl ?_
    refine a_iload dX1_byteAt_55 rfl ?_
    refine a_i2l dX1_byteAt_57 ?_
    refine a_lcmp dX1_byteAt_58 ?_
    refine a_if_ge 71 dX1_byteAt_59 (by decide) (fun c14 => ?_) (fun c14 => ?_)
    · replace h := ite_t c14 h
      refine a_lload dX1_byteAt_71 rfl ?_
      refine a_iload dX1_byteAt_73 rfl ?_
      refine a_i2l dX1_byteAt_75 ?_
      refine a_lsub dX1_byteAt_76 ?_
      refine a_lconst (v := 1) dX1_byteAt_77 (by decide) ?_
      refine a_lsub dX1_byteAt_78 ?_
      refine a_lstore dX1_byteAt_79 (Nat.le_of_ble_eq_true rfl) (lv2 := [(10, .long ((j5 - (Int32.toInt64 v9)) - 1)), (9, .int v9), (8, .int v4), (0, .ref a0), (4, .int x4), (5, .long j5), (7, .int x7)]) rfl ?_
      refine a_lload dX1_byteAt_81 rfl ?_
      refine a_lconst (v := 0) dX1_byteAt_83 (by decide) ?_
      refine a_lcmp dX1_byteAt_84 ?_
      refine a_if_lt 104 dX1_byteAt_85 (by decide) (fun c15 => ?_) (fun c15 => ?_)
      · replace h := ite_t c15 h
        refine a_bipush (v := 32) dX1_byteAt_104 (by decide) ?_
        exact a_iret dX1_byteAt_106 rfl (hR _ _ h)
      · replace h := ite_f c15 h
        refine a_lload dX1_byteAt_88 rfl ?_
        refine a_aload_n dX1_byteAt_90 rfl rfl ?_
        refine a_aload_n dX1_byteAt_91 rfl rfl ?_
        refine a_iload dX1_byteAt_92 rfl ?_
        obtain ⟨⟨ga16, gs17⟩, h⟩ := gd_t h
        obtain ⟨v18, M19, e20, h⟩ := bnd2_t h
        obtain ⟨n21, en22, e20⟩ := cal_t e20
        refine e_callV (As := [.int x4]) (st := [.ref a0, .long ((j5 - (Int32.toInt64 v9)) - 1)]) (a := a0) (ci := 1) false dX1_byteAt_94 mw_X1_leftOf (Or.inl ⟨rfl, ml_X1_53⟩) im_X1_leftOf se_X1_leftOf (by decide) ga16 gs17 rfl (Nat.le_of_ble_eq_true rfl) en22 (s_X1_leftOf e20) ?_
        obtain ⟨⟨ga23, gs24⟩, h⟩ := gd_t h
        obtain ⟨v25, M26, e27, h⟩ := bnd2_t h
        obtain ⟨n28, en29, e27⟩ := cal_t e27
        refine e_callV (As := [.int v18]) (st := [.long ((j5 - (Int32.toInt64 v9)) - 1)]) (a := a0) (ci := 1) false dX1_byteAt_97 mw_X1_bytesOf (Or.inl ⟨rfl, ml_X1_42⟩) im_X1_bytesOf se_X1_bytesOf (by decide) ga23 gs24 rfl (Nat.le_of_ble_eq_true rfl) en29 (s_X1_bytesOf e27) ?_
        refine a_lcmp dX1_byteAt_100 ?_
        refine a_if_ne 107 dX1_byteAt_101 (by decide) (fun c30 => ?_) (fun c30 => ?_)
        · replace h := ite_f c30 h
          refine a_lload dX1_byteAt_107 rfl ?_
          refine a_aload_n dX1_byteAt_109 rfl rfl ?_
          refine a_aload_n dX1_byteAt_110 rfl rfl ?_
          refine a_iload dX1_byteAt_111 rfl ?_
          obtain ⟨⟨ga31, gs32⟩, h⟩ := gd_t h
          obtain ⟨v33, M34, e35, h⟩ := bnd2_t h
          obtain ⟨n36, en37, e35⟩ := cal_t e35
          refine e_callV (As := [.int x4]) (st := [.ref a0, .long ((j5 - (Int32.toInt64 v9)) - 1)]) (a := a0) (ci := 1) false dX1_byteAt_113 mw_X1_leftOf (Or.inl ⟨rfl, ml_X1_53⟩) im_X1_leftOf se_X1_leftOf (by decide) ga31 gs32 rfl (Nat.le_of_ble_eq_true rfl) en37 (s_X1_leftOf e35) ?_
          obtain ⟨⟨ga38, gs39⟩, h⟩ := gd_t h
          obtain ⟨v40, M41, e42, h⟩ := bnd2_t h
          obtain ⟨n43, en44, e42⟩ := cal_t e42
          refine e_callV (As := [.int v33]) (st := [.long ((j5 - (Int32.toInt64 v9)) - 1)]) (a := a0) (ci := 1) false dX1_byteAt_116 mw_X1_bytesOf (Or.inl ⟨rfl, ml_X1_42⟩) im_X1_bytesOf se_X1_bytesOf (by decide) ga38 gs39 rfl (Nat.le_of_ble_eq_true rfl) en44 (s_X1_bytesOf e42) ?_
          refine a_lcmp dX1_byteAt_119 ?_
          refine a_if_ge 138 dX1_byteAt_120 (by decide) (fun c45 => ?_) (fun c45 => ?_)
          · replace h := ite_t c45 h
            refine a_lload dX1_byteAt_138 rfl ?_
            refine a_aload_n dX1_byteAt_140 rfl rfl ?_
            refine a_aload_n dX1_byteAt_141 rfl rfl ?_
            refine a_iload dX1_byteAt_142 rfl ?_
            obtain ⟨⟨ga46, gs47⟩, h⟩ := gd_t h
            obtain ⟨v48, M49, e50, h⟩ := bnd2_t h
            obtain ⟨n51, en52, e50⟩ := cal_t e50
            refine e_callV (As := [.int x4]) (st := [.ref a0, .long ((j5 - (Int32.toInt64 v9)) - 1)]) (a := a0) (ci := 1) false dX1_byteAt_144 mw_X1_leftOf (Or.inl ⟨rfl, ml_X1_53⟩) im_X1_leftOf se_X1_leftOf (by decide) ga46 gs47 rfl (Nat.le_of_ble_eq_true rfl) en52 (s_X1_leftOf e50) ?_
            obtain ⟨⟨ga53, gs54⟩, h⟩ := gd_t h
            obtain ⟨v55, M56, e57, h⟩ := bnd2_t h
            obtain ⟨n58, en59, e57⟩ := cal_t e57
            refine e_callV (As := [.int v48]) (st := [.long ((j5 - (Int32.toInt64 v9)) - 1)]) (a := a0) (ci := 1) false dX1_byteAt_147 mw_X1_bytesOf (Or.inl ⟨rfl, ml_X1_42⟩) im_X1_bytesOf se_X1_bytesOf (by decide) ga53 gs54 rfl (Nat.le_of_ble_eq_true rfl) en59 (s_X1_bytesOf e57) ?_
            refine a_lsub dX1_byteAt_150 ?_
            refine a_lconst (v := 1) dX1_byteAt_151 (by decide) ?_
            refine a_lsub dX1_byteAt_152 ?_
            refine a_lstore dX1_byteAt_153 (Nat.le_of_ble_eq_true rfl) (lv2 := [(5, .long ((((j5 - (Int32.toInt64 v9)) - 1) - v55) - 1)), (10, .long ((j5 - (Int32.toInt64 v9)) - 1)), (9, .int v9), (8, .int v4), (0, .ref a0), (4, .int x4), (7, .int x7)]) rfl ?_
            refine a_aload_n dX1_byteAt_155 rfl rfl ?_
            refine a_iload dX1_byteAt_156 rfl ?_
            obtain ⟨⟨ga60, gs61⟩, h⟩ := gd_t h
            obtain ⟨v62, M63, e64, h⟩ := bnd2_t h
            obtain ⟨n65, en66, e64⟩ := cal_t e64
            refine e_callV (As := [.int x4]) (st := []) (a := a0) (ci := 1) false dX1_byteAt_158 mw_X1_rightOf (Or.inl ⟨rfl, ml_X1_56⟩) im_X1_rightOf se_X1_rightOf (by decide) ga60 gs61 rfl (Nat.le_of_ble_eq_true rfl) en66 (s_X1_rightOf e64) ?_
            refine a_istore dX1_byteAt_161 (Nat.le_of_ble_eq_true rfl) (lv2 := [(4, .int v62), (5, .long ((((j5 - (Int32.toInt64 v9)) - 1) - v55) - 1)), (10, .long ((j5 - (Int32.toInt64 v9)) - 1)), (9, .int v9), (8, .int v4), (0, .ref a0), (7, .int x7)]) rfl ?_
            refine a_iinc (v := (x7 + 1)) dX1_byteAt_163 rfl (by first | rfl | decide) (Nat.le_of_ble_eq_true rfl) (lv2 := [(7, .int (x7 + 1)), (4, .int v62), (5, .long ((((j5 - (Int32.toInt64 v9)) - 1) - v55) - 1)), (10, .long ((j5 - (Int32.toInt64 v9)) - 1)), (9, .int v9), (8, .int v4), (0, .ref a0)]) rfl ?_
            refine a_goto 30 dX1_byteAt_166 (by decide) ?_
            exact a_lv (lv2 := [(0, .ref a0), (4, .int v62), (5, .long ((((j5 - (Int32.toInt64 v9)) - 1) - v55) - 1)), (7, .int (x7 + 1))]) (fa_cons rfl (fa_cons rfl (fa_cons rfl (fa_cons rfl fa_nil)))) (hJ _ _ _ h)
          · replace h := ite_f c45 h
            refine a_aload_n dX1_byteAt_123 rfl rfl ?_
            refine a_iload dX1_byteAt_124 rfl ?_
            obtain ⟨⟨ga67, gs68⟩, h⟩ := gd_t h
            obtain ⟨v69, M70, e71, h⟩ := bnd2_t h
            obtain ⟨n72, en73, e71⟩ := cal_t e71
            refine e_callV (As := [.int x4]) (st := []) (a := a0) (ci := 1) false dX1_byteAt_126 mw_X1_leftOf (Or.inl ⟨rfl, ml_X1_53⟩) im_X1_leftOf se_X1_leftOf (by decide) ga67 gs68 rfl (Nat.le_of_ble_eq_true rfl) en73 (s_X1_leftOf e71) ?_
            refine a_istore dX1_byteAt_129 (Nat.le_of_ble_eq_true rfl) (lv2 := [(4, .int v69), (10, .long ((j5 - (Int32.toInt64 v9)) - 1)), (9, .int v9), (8, .int v4), (0, .ref a0), (5, .long j5), (7, .int x7)]) rfl ?_
            refine a_lload dX1_byteAt_131 rfl ?_
            refine a_lstore dX1_byteAt_133 (Nat.le_of_ble_eq_true rfl) (lv2 := [(5, .long ((j5 - (Int32.toInt64 v9)) - 1)), (4, .int v69), (10, .long ((j5 - (Int32.toInt64 v9)) - 1)), (9, .int v9), (8, .int v4), (0, .ref a0), (7, .int x7)]) rfl ?_
            refine a_goto 163 dX1_byteAt_135 (by decide) ?_
            refine a_iinc (v := (x7 + 1)) dX1_byteAt_163 rfl (by first | rfl | decide) (Nat.le_of_ble_eq_true rfl) (lv2 := [(7, .int (x7 + 1)), (5, .long ((j5 - (Int32.toInt64 v9)) - 1)), (4, .int v69), (10, .long ((j5 - (Int32.toInt64 v9)) - 1)), (9, .int v9), (8, .int v4), (0, .ref a0)]) rfl ?_
            refine a_goto 30 dX1_byteAt_166 (by decide) ?_
            exact a_lv (lv2 := [(0, .ref a0), (4, .int v69), (5, .long ((j5 - (Int32.toInt64 v9)) - 1)), (7, .int (x7 + 1))]) (fa_cons rfl (fa_cons rfl (fa_cons rfl (fa_cons rfl fa_nil)))) (hJ _ _ _ h)
        · replace h := ite_t c30 h
          refine a_bipush (v := 32) dX1_byteAt_104 (by decide) ?_
          exact a_iret dX1_byteAt_106 rfl (hR _ _ h)
    · replace h := ite_f c14 h
      refine a_iload dX1_byteAt_62 rfl ?_
      refine a_lload dX1_byteAt_64 rfl ?_
      refine a_l2i dX1_byteAt_66 ?_
      obtain ⟨v74, M75, e76, h⟩ := bnd2_t h
      obtain ⟨n77, en78, e76⟩ := cal_t e76
      refine e_callS (As := [.int v4, .int (Int64.toInt32 j5)]) (st := []) true dX1_byteAt_67 mw_X10_wordLetter (Or.inr ⟨rfl, mn_X1_49⟩) sm_X10_wordLetter rfl (Nat.le_of_ble_eq_true rfl) en78 (s_X10_wordLetter e76) ?_
      exact a_iret dX1_byteAt_70 rfl (hR _ _ h)
set_option maxHeartbeats 4000000 in
set_option maxRecDepth 100000 in
noncomputable def st_X1_byteAt (n : Nat) (s : Sg) : Option (Sg ⊕ (Int32 × Mem)) := if s.1 = 0 then vR s.2.1 none (fun a0 t => vI t none (fun x1 t => vJ t none (fun j2 t => vE t none (T_X1_byteAt_0 (fun c l M => some (.inl (c, l, M))) (fun v M => some (.inr (v, M))) none n a0 x1 j2 s.2.2)))) else if s.1 = 30 then vR s.2.1 none (fun a0 t => vI t none (fun x4 t => vJ t none (fun j5 t => vI t none (fun x7 t => vE t none (T_X1_byteAt_30 (fun c l M => some (.inl (c, l, M))) (fun v M => some (.inr (v, M))) none n a0 x4 j5 x7 s.2.2))))) else none
noncomputable abbrev g_X1_byteAt_0 (n : Nat) (a0 : Nat) (x1 : Int32) (j2 : Int64) (M : Mem) : Option (Int32 × Mem) := lp (st_X1_byteAt n) (0, [.ref a0, .int x1, .long j2], M)
set_option maxHeartbeats 4000000 in
set_option maxRecDepth 100000 in
theorem ge_X1_byteAt_0 (n : Nat) (a0 : Nat) (x1 : Int32) (j2 : Int64) (M : Mem) : g_X1_byteAt_0 n a0 x1 j2 M = T_X1_byteAt_0 (fun c l M => lp (st_X1_byteAt n) (c, l, M)) (fun v M => some (v, M)) none n a0 x1 j2 M := (lp_eq _ _).trans (n_X1_byteAt_0 (lpK (st_X1_byteAt n)) (fun c l M => some (.inl (c, l, M))) (fun v M => some (.inr (v, M))) none n a0 x1 j2 M)
noncomputable abbrev g_X1_byteAt_30 (n : Nat) (a0 : Nat) (x4 : Int32) (j5 : Int64) (x7 : Int32) (M : Mem) : Option (Int32 × Mem) := lp (st_X1_byteAt n) (30, [.ref a0, .int x4, .long j5, .int x7], M)
set_option maxHeartbeats 4000000 in
set_option maxRecDepth 100000 in
theorem ge_X1_byteAt_30 (n : Nat) (a0 : Nat) (x4 : Int32) (j5 : Int64) (x7 : Int32) (M : Mem) : g_X1_byteAt_30 n a0 x4 j5 x7 M = T_X1_byteAt_30 (fun c l M => lp (st_X1_byteAt n) (c, l, M)) (fun v M => some (v, M)) none n a0 x4 j5 x7 M := (lp_eq _ _).trans (n_X1_byteAt_30 (lpK (st_X1_byteAt n)) (fun c l M => some (.inl (c, l, M))) (fun v M => some (.inr (v, M))) none n a0 x4 j5 x7 M)
noncomputable def b_X1_byteAt (n : Nat) (a0 : Nat) (x1 : Int32) (j2 : Int64) (M : Mem) : Option (Int32 × Mem) := g_X1_byteAt_0 n a0 x1 j2 M
set_option maxHeartbeats 4000000 in
set_option maxRecDepth 100000 in
theorem sb_X1_byteAt {X : Nat × (Nat → Int32)} {al : Bool} {n : Nat} {a0 : Nat} {x1 : Int32} {j2 : Int64} {M : Mem} {v : Int32} {M1 : Mem} (h : b_X1_byteAt n a0 x1 j2 M = some (v, M1)) : AE yX1_byteAt cX1_byteAt 12 (some .int) al n X [.ref a0, .int x1, .long j2] M (some (.int v)) M1 := by
  refine AM.of false (by decide +kernel) (by intro h; cases h) (Nat.le_of_ble_eq_true rfl) ?_
  refine lp_snd (P := fun s r => PW_X1_byteAt X al n (fun v M2 => v = (some (.int r.1)) ∧ M2 = r.2) s.1 s.2.1 s.2.2) ?_ h
  clear h
  rintro ⟨c, l, M⟩ r h
  unfold st_X1_byteAt at h
  rcases ite_p h with ⟨e, h⟩ | ⟨e, h⟩
  · replace e : c = 0 := e
    subst e
    obtain ⟨a0, tt0, e, h⟩ := vR_p id h
    replace e : l = _ := e
    subst e
    obtain ⟨x1, tt1, e, h⟩ := vI_p id h
    replace e : tt0 = _ := e
    subst e
    obtain ⟨j2, tt2, e, h⟩ := vJ_p id h
    replace e : tt1 = _ := e
    subst e
    obtain ⟨e, h⟩ := vE_p id h
    replace e : tt2 = [] := e
    subst e
    exact w_X1_byteAt_0 (J := fun c l M => PW_X1_byteAt X al n (fun v M2 => v = (some (.int r.1)) ∧ M2 = r.2) c l M) (R := fun v M => (v, M) = r) (fun _ _ _ h => h) (fun v M h => by cases h; exact ⟨rfl, rfl⟩) ((n_X1_byteAt_0 (lpP (fun (s : Sg) (r : Int32 × Mem) => PW_X1_byteAt X al n (fun v M2 => v = (some (.int r.1)) ∧ M2 = r.2) s.1 s.2.1 s.2.2) r) (fun c l M => some (.inl (c, l, M))) (fun v M => some (.inr (v, M))) none n a0 x1 j2 M).mp h)
  rcases ite_p h with ⟨e, h⟩ | ⟨e, h⟩
  · replace e : c = 30 := e
    subst e
    obtain ⟨a0, tt0, e, h⟩ := vR_p id h
    replace e : l = _ := e
    subst e
    obtain ⟨x4, tt1, e, h⟩ := vI_p id h
    replace e : tt0 = _ := e
    subst e
    obtain ⟨j5, tt2, e, h⟩ := vJ_p id h
    replace e : tt1 = _ := e
    subst e
    obtain ⟨x7, tt3, e, h⟩ := vI_p id h
    replace e : tt2 = _ := e
    subst e
    obtain ⟨e, h⟩ := vE_p id h
    replace e : tt3 = [] := e
    subst e
    exact w_X1_byteAt_30 (J := fun c l M => PW_X1_byteAt X al n (fun v M2 => v = (some (.int r.1)) ∧ M2 = r.2) c l M) (R := fun v M => (v, M) = r) (fun _ _ _ h => h) (fun v M h => by cases h; exact ⟨rfl, rfl⟩) ((n_X1_byteAt_30 (lpP (fun (s : Sg) (r : Int32 × Mem) => PW_X1_byteAt X al n (fun v M2 => v = (some (.int r.1)) ∧ M2 = r.2) s.1 s.2.1 s.2.2) r) (fun c l M => some (.inl (c, l, M))) (fun v M => some (.inr (v, M))) none n a0 x4 j5 x7 M).mp h)
  · exact h.elim

noncomputable abbrev f_X1_byteAt := b_X1_byteAt
theorem s_X1_byteAt {X : Nat × (Nat → Int32)} {al : Bool} {n : Nat} {a0 : Nat} {x1 : Int32} {j2 : Int64} {M : Mem} {v : Int32} {M1 : Mem} (h : f_X1_byteAt n a0 x1 j2 M = some (v, M1)) : AE yX1_byteAt cX1_byteAt 12 (some .int) al n X [.ref a0, .int x1, .long j2] M (some (.int v)) M1 := sb_X1_byteAt h
set_option maxHeartbeats 4000000 in
set_option maxRecDepth 100000 in
noncomputable def T_X10_hypothesis_0.{u} {α : Sort u} (R : Int32 → Mem → α) (N : α) (n : Nat) (a0 : Nat) (x1 : Int32) (x2 : Int32) (x3 : Int32) (M : Mem) : α := if x1 < 0 then R (-2) M else gd (fO M a0 10) N (bnd (M.2.2.2.2 a0 3) N (fun r4 => gd (fO M r4 2) N (if (M.2.2.1 r4 3) ≤ x1 then R (-2) M else if x2 < 0 then R (-2) M else if x2 ≤ 1 then if 0 ≤ x3 then if x2 = 0 then bnd2 (cal n (fun n => f_X2_nameOf n r4 x1 M)) N (fun v27 M28 => bnd2 (cal n (fun n => f_X10_nameLetter n v27 x3 M28)) N (fun v32 M33 => R v32 M33)) else bnd (M.2.2.2.2 a0 2) N (fun r13 => bnd2 (cal n (fun n => f_X2_formulaOf n r4 x1 M)) N (fun v15 M16 => gd (fO M16 r13 1) N (bnd2 (cal n (fun n => f_X1_byteAt n r13 v15 (Int32.toInt64 x3) M16)) N (fun v22 M23 => R v22 M23)))) else R (-3) M else R (-2) M)))
set_option maxHeartbeats 4000000 in
set_option maxRecDepth 100000 in
theorem n_X10_hypothesis_0.{u, v} {α : Sort u} {β : Sort v} (h : α → β) (R : Int32 → Mem → α) (N : α) (n : Nat) (a0 : Nat) (x1 : Int32) (x2 : Int32) (x3 : Int32) (M : Mem) : h (T_X10_hypothesis_0 R N n a0 x1 x2 x3 M) = T_X10_hypothesis_0 (fun v M => h (R v M)) (h N) n a0 x1 x2 x3 M := by
  simp only [T_X10_hypothesis_0, nat_ite h, nat_gd h, nat_bnd h, nat_bnd2 h]
set_option maxHeartbeats 4000000 in
set_option maxRecDepth 100000 in
theorem w_X10_hypothesis_0 {X : Nat × (Nat → Int32)} {al : Bool} {n : Nat} {Q : Option Value → Mem → Prop} {R : Int32 → Mem → Prop} (hR : ∀ v M, R v M → Q (some (.int v)) M) {a0 : Nat} {x1 : Int32} {x2 : Int32} {x3 : Int32} {M : Mem} (h : T_X10_hypothesis_0 R False n a0 x1 x2 x3 M) : AW X (RX10, cX10_hypothesis, 4, (some .int), false, al, n) 0 0 0 [(0, .ref a0), (1, .int x1), (2, .int x2), (3, .int x3)] [] M Q := by
  unfold T_X10_hypothesis_0 at h
  refine a_iload_n dX10_hypothesis_0 rfl rfl ?_
  refine a_if_lt 24 dX10_hypothesis_1 (by decide) (fun c1 => ?_) (fun c1 => ?_)
  · replace h := ite_t c1 h
    refine a_bipush (v := -2) dX10_hypothesis_24 (by decide) ?_
    exact a_iret dX10_hypothesis_26 rfl (hR _ _ h)
  · replace h := ite_f c1 h
    refine a_iload_n dX10_hypothesis_4 rfl rfl ?_
    refine a_aload_n dX10_hypothesis_5 rfl rfl ?_
    obtain ⟨⟨ga2, gs3⟩, h⟩ := gd_t h
    obtain ⟨r4, e5, h⟩ := bnd_t h
    refine a_get (v := .ref r4) dX10_hypothesis_6 fl_10_23 ga2 gs3 (gvR e5 rfl) ?_
    obtain ⟨⟨ga6, gs7⟩, h⟩ := gd_t h
    refine a_getN (v := .int (M.2.2.1 r4 3)) dX10_hypothesis_9 fn_10_138 ga6 gs7 rfl ?_
    refine a_icmp_ge 24 dX10_hypothesis_12 (by decide) (fun c8 => ?_) (fun c8 => ?_)
    · replace h := ite_t c8 h
      refine a_bipush (v := -2) dX10_hypothesis_24 (by decide) ?_
      exact a_iret dX10_hypothesis_26 rfl (hR _ _ h)
    · replace h := ite_f c8 h
      refine a_iload_n dX10_hypothesis_15 rfl rfl ?_
      refine a_if_lt 24 dX10_hypothesis_16 (by decide) (fun c9 => ?_) (fun c9 => ?_)
      · replace h := ite_t c9 h
        refine a_bipush (v := -2) dX10_hypothesis_24 (by decide) ?_
        exact a_iret dX10_hypothesis_26 rfl (hR _ _ h)
      · replace h := ite_f c9 h
        refine a_iload_n dX10_hypothesis_19 rfl rfl ?_
        refine a_iconst (v := 1) dX10_hypothesis_20 (by decide) ?_
        refine a_icmp_le 27 dX10_hypothesis_21 (by decide) (fun c10 => ?_) (fun c10 => ?_)
        · replace h := ite_t c10 h
          refine a_iload_n dX10_hypothesis_27 rfl rfl ?_
          refine a_if_ge 34 dX10_hypothesis_28 (by decide) (fun c11 => ?_) (fun c11 => ?_)
          · replace h := ite_t c11 h
            refine a_iload_n dX10_hypothesis_34 rfl rfl ?_
            refine a_if_ne 53 dX10_hypothesis_35 (by decide) (fun c12 => ?_) (fun c12 => ?_)
            · replace h := ite_f c12 h
              refine a_aload_n dX10_hypothesis_53 rfl rfl ?_
              obtain ⟨r13, e14, h⟩ := bnd_t h
              refine a_get (v := .ref r13) dX10_hypothesis_54 fl_10_16 ga2 gs3 (gvR e14 rfl) ?_
              refine a_aload_n dX10_hypothesis_57 rfl rfl ?_
              refine a_get (v := .ref r4) dX10_hypothesis_58 fl_10_23 ga2 gs3 (gvR e5 rfl) ?_
              refine a_iload_n dX10_hypothesis_61 rfl rfl ?_
              obtain ⟨v15, M16, e17, h⟩ := bnd2_t h
              obtain ⟨n18, en19, e17⟩ := cal_t e17
              refine e_callV (As := [.int x1]) (st := [.ref r13]) (a := r4) (ci := 2) false dX10_hypothesis_62 mw_X2_formulaOf (Or.inl ⟨rfl, ml_X10_190⟩) im_X2_formulaOf se_X2_formulaOf (by decide) ga6 gs7 rfl (Nat.le_of_ble_eq_true rfl) en19 (s_X2_formulaOf e17) ?_
              refine a_iload_n dX10_hypothesis_65 rfl rfl ?_
              refine a_i2l dX10_hypothesis_66 ?_
              obtain ⟨⟨ga20, gs21⟩, h⟩ := gd_t h
              obtain ⟨v22, M23, e24, h⟩ := bnd2_t h
              obtain ⟨n25, en26, e24⟩ := cal_t e24
              refine e_callV (As := [.int v15, .long (Int32.toInt64 x3)]) (st := []) (a := r13) (ci := 1) false dX10_hypothesis_67 mw_X1_byteAt (Or.inl ⟨rfl, ml_X10_193⟩) im_X1_byteAt se_X1_byteAt (by decide) ga20 gs21 rfl (Nat.le_of_ble_eq_true rfl) en26 (s_X1_byteAt e24) ?_
              exact a_iret dX10_hypothesis_70 rfl (hR _ _ h)
            · replace h := ite_t c12 h
              refine a_aload_n dX10_hypothesis_38 rfl rfl ?_
              refine a_get (v := .ref r4) dX10_hypothesis_39 fl_10_23 ga2 gs3 (gvR e5 rfl) ?_
              refine a_iload_n dX10_hypothesis_42 rfl rfl ?_
              obtain ⟨v27, M28, e29, h⟩ := bnd2_t h
              obtain ⟨n30, en31, e29⟩ := cal_t e29
              refine e_callV (As := [.int x1]) (st := []) (a := r4) (ci := 2) false dX10_hypothesis_43 mw_X2_nameOf (Or.inl ⟨rfl, ml_X10_183⟩) im_X2_nameOf se_X2_nameOf (by decide) ga6 gs7 rfl (Nat.le_of_ble_eq_true rfl) en31 (s_X2_nameOf e29) ?_
              refine a_iload_n dX10_hypothesis_46 rfl rfl ?_
              obtain ⟨v32, M33, e34, h⟩ := bnd2_t h
              obtain ⟨n35, en36, e34⟩ := cal_t e34
              refine e_callS (As := [.int v27, .int x3]) (st := []) false dX10_hypothesis_47 mw_X10_nameLetter (Or.inl ⟨rfl, ml_X10_186⟩) sm_X10_nameLetter rfl (Nat.le_of_ble_eq_true rfl) en36 (s_X10_nameLetter e34) ?_
              refine a_goto 70 dX10_hypothesis_50 (by decide) ?_
              exact a_iret dX10_hypothesis_70 rfl (hR _ _ h)
          · replace h := ite_f c11 h
            refine a_bipush (v := -3) dX10_hypothesis_31 (by decide) ?_
            exact a_iret dX10_hypothesis_33 rfl (hR _ _ h)
        · replace h := ite_f c10 h
          refine a_bipush (v := -2) dX10_hypothesis_24 (by decide) ?_
          exact a_iret dX10_hypothesis_26 rfl (hR _ _ h)
noncomputable def b_X10_hypothesis (n : Nat) (a0 : Nat) (x1 : Int32) (x2 : Int32) (x3 : Int32) (M : Mem) : Option (Int32 × Mem) := T_X10_hypothesis_0 (fun v M => some (v, M)) none n a0 x1 x2 x3 M
set_option maxHeartbeats 4000000 in
set_option maxRecDepth 100000 in
theorem sb_X10_hypothesis {X : Nat × (Nat → Int32)} {al : Bool} {n : Nat} {a0 : Nat} {x1 : Int32} {x2 : Int32} {x3 : Int32} {M : Mem} {v : Int32} {M1 : Mem} (h : b_X10_hypothesis n a0 x1 x2 x3 M = some (v, M1)) : AE yX10_hypothesis cX10_hypothesis 4 (some .int) al n X [.ref a0, .int x1, .int x2, .int x3] M (some (.int v)) M1 := by
  refine AM.of false (by decide +kernel) (by intro h; cases h) (Nat.le_of_ble_eq_true rfl) ?_
  have h2 : T_X10_hypothesis_0 (fun v2 M2 => some (v2, M2) = some (v, M1)) (none = some (v, M1)) n a0 x1 x2 x3 M := (n_X10_hypothesis_0 (fun o => o = some (v, M1)) (fun v M => some (v, M)) none n a0 x1 x2 x3 M).mp h
  have h3 : ((none : Option (Int32 × Mem)) = some (v, M1)) = False := eq_false (by intro q; cases q)
  rw [h3] at h2
  exact w_X10_hypothesis_0 (fun v2 M2 h => by cases h; exact ⟨rfl, rfl⟩) h2

noncomputable abbrev f_X10_hypothesis := b_X10_hypothesis
theorem s_X10_hypothesis {X : Nat × (Nat → Int32)} {al : Bool} {n : Nat} {a0 : Nat} {x1 : Int32} {x2 : Int32} {x3 : Int32} {M : Mem} {v : Int32} {M1 : Mem} (h : f_X10_hypothesis n a0 x1 x2 x3 M = some (v, M1)) : AE yX10_hypothesis cX10_hypothesis 4 (some .int) al n X [.ref a0, .int x1, .int x2, .int x3] M (some (.int v)) M1 := sb_X10_hypothesis h
set_option maxHeartbeats 4000000 in
set_option maxRecDepth 100000 in
noncomputable def T_X11_begins0_0.{u} {α : Sort u} (R : Unit → Mem → α) (N : α) (n : Nat) (a0 : Nat) (x1 : Int32) (M : Mem) : α := gd (fO M a0 11) N (R () (wI (wI (wI M a0 48 0) a0 49 x1) a0 50 (-1)))
set_option maxHeartbeats 4000000 in
set_option maxRecDepth 100000 in
theorem n_X11_begins0_0.{u, v} {α : Sort u} {β : Sort v} (h : α → β) (R : Unit → Mem → α) (N : α) (n : Nat) (a0 : Nat) (x1 : Int32) (M : Mem) : h (T_X11_begins0_0 R N n a0 x1 M) = T_X11_begins0_0 (fun v M => h (R v M)) (h N) n a0 x1 M := by
  simp only [T_X11_begins0_0, nat_ite h, nat_gd h, nat_bnd h, nat_bnd2 h]
set_option maxHeartbeats 4000000 in
set_option maxRecDepth 100000 in
theorem w_X11_begins0_0 {X : Nat × (Nat → Int32)} {al : Bool} {n : Nat} {Q : Option Value → Mem → Prop} {R : Unit → Mem → Prop} (hR : ∀ v M, R v M → Q none M) {a0 : Nat} {x1 : Int32} {M : Mem} (h : T_X11_begins0_0 R False n a0 x1 M) : AW X (RX11, cX11_begins0, 2, none, false, al, n) 0 0 0 [(0, .ref a0), (1, .int x1)] [] M Q := by
  unfold T_X11_begins0_0 at h
  refine a_aload_n dX11_begins0_0 rfl rfl ?_
  refine a_iconst (v := 0) dX11_begins0_1 (by decide) ?_
  obtain ⟨⟨ga1, gs2⟩, h⟩ := gd_t h
  refine a_putI dX11_begins0_2 (Or.inl ⟨fl_11_361, Or.inl rfl⟩) rfl ga1 gs2 rfl rfl ?_
  refine a_aload_n dX11_begins0_5 rfl rfl ?_
  refine a_iload_n dX11_begins0_6 rfl rfl ?_
  refine a_putI dX11_begins0_7 (Or.inl ⟨fl_11_364, Or.inl rfl⟩) rfl ga1 gs2 rfl rfl ?_
  refine a_aload_n dX11_begins0_10 rfl rfl ?_
  refine a_iconst (v := -1) dX11_begins0_11 (by decide) ?_
  refine a_putI dX11_begins0_12 (Or.inl ⟨fl_11_367, Or.inl rfl⟩) rfl ga1 gs2 rfl rfl ?_
  exact a_vret dX11_begins0_15 rfl (hR _ _ h)
noncomputable def b_X11_begins0 (n : Nat) (a0 : Nat) (x1 : Int32) (M : Mem) : Option (Unit × Mem) := T_X11_begins0_0 (fun v M => some (v, M)) none n a0 x1 M
set_option maxHeartbeats 4000000 in
set_option maxRecDepth 100000 in
theorem sb_X11_begins0 {X : Nat × (Nat → Int32)} {al : Bool} {n : Nat} {a0 : Nat} {x1 : Int32} {M : Mem} {v : Unit} {M1 : Mem} (h : b_X11_begins0 n a0 x1 M = some (v, M1)) : AE yX11_begins0 cX11_begins0 2 none al n X [.ref a0, .int x1] M none M1 := by
  refine AM.of false (by decide +kernel) (by intro h; cases h) (Nat.le_of_ble_eq_true rfl) ?_
  have h2 : T_X11_begins0_0 (fun v2 M2 => some (v2, M2) = some (v, M1)) (none = some (v, M1)) n a0 x1 M := (n_X11_begins0_0 (fun o => o = some (v, M1)) (fun v M => some (v, M)) none n a0 x1 M).mp h
  have h3 : ((none : Option (Unit × Mem)) = some (v, M1)) = False := eq_false (by intro q; cases q)
  rw [h3] at h2
  exact w_X11_begins0_0 (fun v2 M2 h => by cases h; exact ⟨rfl, rfl⟩) h2

noncomputable abbrev f_X11_begins0 := b_X11_begins0
theorem s_X11_begins0 {X : Nat × (Nat → Int32)} {al : Bool} {n : Nat} {a0 : Nat} {x1 : Int32} {M : Mem} {v : Unit} {M1 : Mem} (h : f_X11_begins0 n a0 x1 M = some (v, M1)) : AE yX11_begins0 cX11_begins0 2 none al n X [.ref a0, .int x1] M none M1 := sb_X11_begins0 h
set_option maxHeartbeats 4000000 in
set_option maxRecDepth 100000 in
noncomputable def T_X11_tells_0.{u} {α : Sort u} (R : Unit → Mem → α) (N : α) (n : Nat) (a0 : Nat) (x1 : Int32) (M : Mem) : α := gd (fO M a0 11) N (if (M.2.2.1 a0 48) = (M.2.2.1 a0 49) then R () (wI (wI M a0 50 x1) a0 48 (((wI M a0 50 x1).2.2.1 a0 48) + 1)) else R () (wI M a0 48 ((M.2.2.1 a0 48) + 1)))
set_option maxHeartbeats 4000000 in
set_option maxRecDepth 100000 in
theorem n_X11_tells_0.{u, v} {α : Sort u} {β : Sort v} (h : α → β) (R : Unit → Mem → α) (N : α) (n : Nat) (a0 : Nat) (x1 : Int32) (M : Mem) : h (T_X11_tells_0 R N n a0 x1 M) = T_X11_tells_0 (fun v M => h (R v M)) (h N) n a0 x1 M := by
  simp only [T_X11_tells_0, nat_ite h, nat_gd h, nat_bnd h, nat_bnd2 h]
set_option maxHeartbeats 4000000 in
set_option maxRecDepth 100000 in
theorem w_X11_tells_0 {X : Nat × (Nat → Int32)} {al : Bool} {n : Nat} {Q : Option Value → Mem → Prop} {R : Unit → Mem → Prop} (hR : ∀ v M, R v M → Q none M) {a0 : Nat} {x1 : Int32} {M : Mem} (h : T_X11_tells_0 R False n a0 x1 M) : AW X (RX11, cX11_tells, 2, none, false, al, n) 0 0 0 [(0, .ref a0), (1, .int x1)] [] M Q := by
  unfold T_X11_tells_0 at h
  refine a_aload_n dX11_tells_0 rfl rfl ?_
  obtain ⟨⟨ga1, gs2⟩, h⟩ := gd_t h
  refine a_get (v := .int (M.2.2.1 a0 48)) dX11_tells_1 fl_11_361 ga1 gs2 rfl ?_
  refine a_aload_n dX11_tells_4 rfl rfl ?_
  refine a_get (v := .int (M.2.2.1 a0 49)) dX11_tells_5 fl_11_364 ga1 gs2 rfl ?_
  refine a_icmp_ne 16 dX11_tells_8 (by decide) (fun c3 => ?_) (fun c3 => ?_)
  · replace h := ite_f c3 h
    refine a_aload_n dX11_tells_16 rfl rfl ?_
    refine a_dup dX11_tells_17 rfl ?_
    refine a_get (v := .int (M.2.2.1 a0 48)) dX11_tells_18 fl_11_361 ga1 gs2 rfl ?_
    refine a_iconst (v := 1) dX11_tells_21 (by decide) ?_
    refine a_iadd dX11_tells_22 ?_
    refine a_putI dX11_tells_23 (Or.inl ⟨fl_11_361, Or.inl rfl⟩) rfl ga1 gs2 rfl rfl ?_
    exact a_vret dX11_tells_26 rfl (hR _ _ h)
  · replace h := ite_t c3 h
    refine a_aload_n dX11_tells_11 rfl rfl ?_
    refine a_iload_n dX11_tells_12 rfl rfl ?_
    refine a_putI dX11_tells_13 (Or.inl ⟨fl_11_367, Or.inl rfl⟩) rfl ga1 gs2 rfl rfl ?_
    refine a_aload_n dX11_tells_16 rfl rfl ?_
    refine a_dup dX11_tells_17 rfl ?_
    refine a_get (v := .int ((wI M a0 50 x1).2.2.1 a0 48)) dX11_tells_18 fl_11_361 ga1 gs2 rfl ?_
    refine a_iconst (v := 1) dX11_tells_21 (by decide) ?_
    refine a_iadd dX11_tells_22 ?_
    refine a_putI dX11_tells_23 (Or.inl ⟨fl_11_361, Or.inl rfl⟩) rfl ga1 gs2 rfl rfl ?_
    exact a_vret dX11_tells_26 rfl (hR _ _ h)
noncomputable def b_X11_tells (n : Nat) (a0 : Nat) (x1 : Int32) (M : Mem) : Option (Unit × Mem) := T_X11_tells_0 (fun v M => some (v, M)) none n a0 x1 M
set_option maxHeartbeats 4000000 in
set_option maxRecDepth 100000 in
theorem sb_X11_tells {X : Nat × (Nat → Int32)} {al : Bool} {n : Nat} {a0 : Nat} {x1 : Int32} {M : Mem} {v : Unit} {M1 : Mem} (h : b_X11_tells n a0 x1 M = some (v, M1)) : AE yX11_tells cX11_tells 2 none al n X [.ref a0, .int x1] M none M1 := by
  refine AM.of false (by decide +kernel) (by intro h; cases h) (Nat.le_of_ble_eq_true rfl) ?_
  have h2 : T_X11_tells_0 (fun v2 M2 => some (v2, M2) = some (v, M1)) (none = some (v, M1)) n a0 x1 M := (n_X11_tells_0 (fun o => o = some (v, M1)) (fun v M => some (v, M)) none n a0 x1 M).mp h
  have h3 : ((none : Option (Unit × Mem)) = some (v, M1)) = False := eq_false (by intro q; cases q)
  rw [h3] at h2
  exact w_X11_tells_0 (fun v2 M2 h => by cases h; exact ⟨rfl, rfl⟩) h2

noncomputable abbrev f_X11_tells := b_X11_tells
theorem s_X11_tells {X : Nat × (Nat → Int32)} {al : Bool} {n : Nat} {a0 : Nat} {x1 : Int32} {M : Mem} {v : Unit} {M1 : Mem} (h : f_X11_tells n a0 x1 M = some (v, M1)) : AE yX11_tells cX11_tells 2 none al n X [.ref a0, .int x1] M none M1 := sb_X11_tells h
