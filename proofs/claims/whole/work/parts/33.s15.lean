/-! METHODS AS FUNCTIONS, written by wip/gen/shallow.py -/
set_option maxHeartbeats 4000000 in
set_option maxRecDepth 100000 in
noncomputable def T_X11_proves_0.{u} {α : Sort u} (R : Int32 → Mem → α) (N : α) (n : Nat) (a0 : Nat) (M : Mem) : α := gd (fO M a0 11) N (bnd2 (cal n (fun n => f_X11_asks n a0 0 (wI M a0 43 0))) N (fun v3 M4 => R v3 M4))
set_option maxHeartbeats 4000000 in
set_option maxRecDepth 100000 in
theorem n_X11_proves_0.{u, v} {α : Sort u} {β : Sort v} (h : α → β) (R : Int32 → Mem → α) (N : α) (n : Nat) (a0 : Nat) (M : Mem) : h (T_X11_proves_0 R N n a0 M) = T_X11_proves_0 (fun v M => h (R v M)) (h N) n a0 M := by
  simp only [T_X11_proves_0, nat_ite h, nat_gd h, nat_bnd h, nat_bnd2 h]
set_option maxHeartbeats 4000000 in
set_option maxRecDepth 100000 in
theorem w_X11_proves_0 {X : Nat × (Nat → Int32)} {al : Bool} {n : Nat} {Q : Option Value → Mem → Prop} {R : Int32 → Mem → Prop} (hR : ∀ v M, R v M → Q (some (.int v)) M) {a0 : Nat} {M : Mem} (h : T_X11_proves_0 R False n a0 M) : AW X (RX11, cX11_proves, 1, (some .int), false, al, n) 0 0 0 [(0, .ref a0)] [] M Q := by
  unfold T_X11_proves_0 at h
  refine a_aload_n dX11_proves_0 rfl rfl ?_
  refine a_iconst (v := 0) dX11_proves_1 (by decide) ?_
  obtain ⟨⟨ga1, gs2⟩, h⟩ := gd_t h
  refine a_putI dX11_proves_2 (Or.inl ⟨fl_11_283, Or.inl rfl⟩) rfl ga1 gs2 rfl rfl ?_
  refine a_aload_n dX11_proves_5 rfl rfl ?_
  refine a_iconst (v := 0) dX11_proves_6 (by decide) ?_
  obtain ⟨v3, M4, e5, h⟩ := bnd2_t h
  obtain ⟨n6, en7, e5⟩ := cal_t e5
  refine e_callV (As := [.int 0]) (st := []) (a := a0) (ci := 11) false dX11_proves_7 mw_X11_asks (Or.inl ⟨rfl, ml_X11_286⟩) im_X11_asks se_X11_asks (by decide) ga1 gs2 rfl (Nat.le_of_ble_eq_true rfl) en7 (s_X11_asks e5) ?_
  exact a_iret dX11_proves_10 rfl (hR _ _ h)
noncomputable def b_X11_proves (n : Nat) (a0 : Nat) (M : Mem) : Option (Int32 × Mem) := T_X11_proves_0 (fun v M => some (v, M)) none n a0 M
set_option maxHeartbeats 4000000 in
set_option maxRecDepth 100000 in
theorem sb_X11_proves {X : Nat × (Nat → Int32)} {al : Bool} {n : Nat} {a0 : Nat} {M : Mem} {v : Int32} {M1 : Mem} (h : b_X11_proves n a0 M = some (v, M1)) : AE yX11_proves cX11_proves 1 (some .int) al n X [.ref a0] M (some (.int v)) M1 := by
  refine AM.of false (by decide +kernel) (by intro h; cases h) (Nat.le_of_ble_eq_true rfl) ?_
  have h2 : T_X11_proves_0 (fun v2 M2 => some (v2, M2) = some (v, M1)) (none = some (v, M1)) n a0 M := (n_X11_proves_0 (fun o => o = some (v, M1)) (fun v M => some (v, M)) none n a0 M).mp h
  have h3 : ((none : Option (Int32 × Mem)) = some (v, M1)) = False := eq_false (by intro q; cases q)
  rw [h3] at h2
  exact w_X11_proves_0 (fun v2 M2 h => by cases h; exact ⟨rfl, rfl⟩) h2

noncomputable abbrev f_X11_proves := b_X11_proves
theorem s_X11_proves {X : Nat × (Nat → Int32)} {al : Bool} {n : Nat} {a0 : Nat} {M : Mem} {v : Int32} {M1 : Mem} (h : f_X11_proves n a0 M = some (v, M1)) : AE yX11_proves cX11_proves 1 (some .int) al n X [.ref a0] M (some (.int v)) M1 := sb_X11_proves h
def ix_X11_stores (c : Nat) : List Nat := if c = 0 then [0, 1] else if c = 12 then [0, 1, 2] else []
def PW_X11_stores (X : Nat × (Nat → Int32)) (al : Bool) (n : Nat) (Q : Option Value → Mem → Prop) (c : Nat) (l : List Value) (M : Mem) : Prop := AW X (RX11, cX11_stores, 3, none, false, al, n) 0 0 c (List.zip (ix_X11_stores c) l) (l.drop (ix_X11_stores c).length) M Q
set_option maxHeartbeats 4000000 in
set_option maxRecDepth 100000 in
noncomputable def T_X11_stores_0.{u} {α : Sort u} (J : Nat → List Value → Mem → α) (R : Unit → Mem → α) (N : α) (n : Nat) (a0 : Nat) (x1 : Int32) (M : Mem) : α := gd (fO M a0 11) N (bnd (M.2.2.2.2 a0 19) N (fun r3 => gd (fA M r3 1 x1) N (J 12 [.ref a0, .int x1, .int 0] (wI M r3 (x1.toNatClampNeg) (M.2.2.1 a0 24)))))
set_option maxHeartbeats 4000000 in
set_option maxRecDepth 100000 in
theorem n_X11_stores_0.{u, v} {α : Sort u} {β : Sort v} (h : α → β) (J : Nat → List Value → Mem → α) (R : Unit → Mem → α) (N : α) (n : Nat) (a0 : Nat) (x1 : Int32) (M : Mem) : h (T_X11_stores_0 J R N n a0 x1 M) = T_X11_stores_0 (fun c l M => h (J c l M)) (fun v M => h (R v M)) (h N) n a0 x1 M := by
  simp only [T_X11_stores_0, nat_ite h, nat_gd h, nat_bnd h, nat_bnd2 h]
set_option maxHeartbeats 4000000 in
set_option maxRecDepth 100000 in
theorem w_X11_stores_0 {X : Nat × (Nat → Int32)} {al : Bool} {n : Nat} {Q : Option Value → Mem → Prop} {J : Nat → List Value → Mem → Prop} (hJ : ∀ c l M, J c l M → PW_X11_stores X al n Q c l M) {R : Unit → Mem → Prop} (hR : ∀ v M, R v M → Q none M) {a0 : Nat} {x1 : Int32} {M : Mem} (h : T_X11_stores_0 J R False n a0 x1 M) : AW X (RX11, cX11_stores, 3, none, false, al, n) 0 0 0 [(0, .ref a0), (1, .int x1)] [] M Q := by
  unfold T_X11_stores_0 at h
  refine a_aload_n dX11_stores_0 rfl rfl ?_
  obtain ⟨⟨ga1, gs2⟩, h⟩ := gd_t h
  obtain ⟨r3, e4, h⟩ := bnd_t h
  refine a_get (v := .ref r3) dX11_stores_1 fl_11_56 ga1 gs2 (gvR e4 rfl) ?_
  refine a_iload_n dX11_stores_4 rfl rfl ?_
  refine a_aload_n dX11_stores_5 rfl rfl ?_
  refine a_get (v := .int (M.2.2.1 a0 24)) dX11_stores_6 fl_11_151 ga1 gs2 rfl ?_
  obtain ⟨⟨ga5, gn6, gs7, gi8⟩, h⟩ := gd_t h
  refine a_iastore dX11_stores_9 ga5 gs7 gi8 ?_
  refine a_iconst (v := 0) dX11_stores_10 (by decide) ?_
  refine a_istore_n dX11_stores_11 rfl (Nat.le_of_ble_eq_true rfl) (lv2 := [(2, .int 0), (0, .ref a0), (1, .int x1)]) rfl ?_
  exact a_lv (lv2 := [(0, .ref a0), (1, .int x1), (2, .int 0)]) (fa_cons rfl (fa_cons rfl (fa_cons rfl fa_nil))) (hJ _ _ _ h)
set_option maxHeartbeats 4000000 in
set_option maxRecDepth 100000 in
noncomputable def T_X11_stores_12.{u} {α : Sort u} (J : Nat → List Value → Mem → α) (R : Unit → Mem → α) (N : α) (n : Nat) (a0 : Nat) (x1 : Int32) (x2 : Int32) (M : Mem) : α := gd (fO M a0 11) N (if (M.2.2.1 a0 24) ≤ x2 then R () M else bnd (M.2.2.2.2 a0 17) N (fun r4 => bnd (M.2.2.2.2 a0 20) N (fun r6 => gd (fA M r6 1 x2) N (gd (fA M r4 1 ((200 * x1) + x2)) N (bnd (M.2.2.2.2 a0 18) N (fun r16 => bnd (M.2.2.2.2 a0 21) N (fun r18 => gd (fA M r18 1 x2) N (gd (fA M r16 1 ((200 * x1) + x2)) N (J 12 [.ref a0, .int x1, .int (x2 + 1)] (wI (wI M r4 (((200 * x1) + x2).toNatClampNeg) (M.2.2.1 r6 (x2.toNatClampNeg))) r16 (((200 * x1) + x2).toNatClampNeg) ((wI M r4 (((200 * x1) + x2).toNatClampNeg) (M.2.2.1 r6 (x2.toNatClampNeg))).2.2.1 r18 (x2.toNatClampNeg))))))))))))
set_option maxHeartbeats 4000000 in
set_option maxRecDepth 100000 in
theorem n_X11_stores_12.{u, v} {α : Sort u} {β : Sort v} (h : α → β) (J : Nat → List Value → Mem → α) (R : Unit → Mem → α) (N : α) (n : Nat) (a0 : Nat) (x1 : Int32) (x2 : Int32) (M : Mem) : h (T_X11_stores_12 J R N n a0 x1 x2 M) = T_X11_stores_12 (fun c l M => h (J c l M)) (fun v M => h (R v M)) (h N) n a0 x1 x2 M := by
  simp only [T_X11_stores_12, nat_ite h, nat_gd h, nat_bnd h, nat_bnd2 h]
set_option maxHeartbeats 4000000 in
set_option maxRecDepth 100000 in
theorem w_X11_stores_12 {X : Nat × (Nat → Int32)} {al : Bool} {n : Nat} {Q : Option Value → Mem → Prop} {J : Nat → List Value → Mem → Prop} (hJ : ∀ c l M, J c l M → PW_X11_stores X al n Q c l M) {R : Unit → Mem → Prop} (hR : ∀ v M, R v M → Q none M) {a0 : Nat} {x1 : Int32} {x2 : Int32} {M : Mem} (h : T_X11_stores_12 J R False n a0 x1 x2 M) : AW X (RX11, cX11_stores, 3, none, false, al, n) 0 0 12 [(0, .ref a0), (1, .int x1), (2, .int x2)] [] M Q := by
  unfold T_X11_stores_12 at h
  refine a_iload_n dX11_stores_12 rfl rfl ?_
  refine a_aload_n dX11_stores_13 rfl rfl ?_
  obtain ⟨⟨ga1, gs2⟩, h⟩ := gd_t h
  refine a_get (v := .int (M.2.2.1 a0 24)) dX11_stores_14 fl_11_151 ga1 gs2 rfl ?_
  refine a_icmp_ge 62 dX11_stores_17 (by decide) (fun c3 => ?_) (fun c3 => ?_)
  · replace h := ite_t c3 h
    exact a_vret dX11_stores_62 rfl (hR _ _ h)
  · replace h := ite_f c3 h
    refine a_aload_n dX11_stores_20 rfl rfl ?_
    obtain ⟨r4, e5, h⟩ := bnd_t h
    refine a_get (v := .ref r4) dX11_stores_21 fl_11_50 ga1 gs2 (gvR e5 rfl) ?_
    refine a_sipush (v := 200) dX11_stores_24 (by decide) ?_
    refine a_iload_n dX11_stores_27 rfl rfl ?_
    refine a_imul dX11_stores_28 ?_
    refine a_iload_n dX11_stores_29 rfl rfl ?_
    refine a_iadd dX11_stores_30 ?_
    refine a_aload_n dX11_stores_31 rfl rfl ?_
    obtain ⟨r6, e7, h⟩ := bnd_t h
    refine a_get (v := .ref r6) dX11_stores_32 fl_11_59 ga1 gs2 (gvR e7 rfl) ?_
    refine a_iload_n dX11_stores_35 rfl rfl ?_
    obtain ⟨⟨ga8, gn9, gs10, gi11⟩, h⟩ := gd_t h
    refine a_iaload dX11_stores_36 ga8 gs10 gi11 ?_
    obtain ⟨⟨ga12, gn13, gs14, gi15⟩, h⟩ := gd_t h
    refine a_iastore dX11_stores_37 ga12 gs14 gi15 ?_
    refine a_aload_n dX11_stores_38 rfl rfl ?_
    obtain ⟨r16, e17, h⟩ := bnd_t h
    refine a_get (v := .ref r16) dX11_stores_39 fl_11_53 ga1 gs2 (gvR e17 rfl) ?_
    refine a_sipush (v := 200) dX11_stores_42 (by decide) ?_
    refine a_iload_n dX11_stores_45 rfl rfl ?_
    refine a_imul dX11_stores_46 ?_
    refine a_iload_n dX11_stores_47 rfl rfl ?_
    refine a_iadd dX11_stores_48 ?_
    refine a_aload_n dX11_stores_49 rfl rfl ?_
    obtain ⟨r18, e19, h⟩ := bnd_t h
    refine a_get (v := .ref r18) dX11_stores_50 fl_11_62 ga1 gs2 (gvR e19 rfl) ?_
    refine a_iload_n dX11_stores_53 rfl rfl ?_
    obtain ⟨⟨ga20, gn21, gs22, gi23⟩, h⟩ := gd_t h
    refine a_iaload dX11_stores_54 ga20 gs22 gi23 ?_
    obtain ⟨⟨ga24, gn25, gs26, gi27⟩, h⟩ := gd_t h
    refine a_iastore dX11_stores_55 ga24 gs26 gi27 ?_
    refine a_iinc (v := (x2 + 1)) dX11_stores_56 rfl (by first | rfl | decide) (Nat.le_of_ble_eq_true rfl) (lv2 := [(2, .int (x2 + 1)), (0, .ref a0), (1, .int x1)]) rfl ?_
    refine a_goto 12 dX11_stores_59 (by decide) ?_
    exact a_lv (lv2 := [(0, .ref a0), (1, .int x1), (2, .int (x2 + 1))]) (fa_cons rfl (fa_cons rfl (fa_cons rfl fa_nil))) (hJ _ _ _ h)
set_option maxHeartbeats 4000000 in
set_option maxRecDepth 100000 in
noncomputable def st_X11_stores (n : Nat) (s : Sg) : Option (Sg ⊕ (Unit × Mem)) := if s.1 = 0 then vR s.2.1 none (fun a0 t => vI t none (fun x1 t => vE t none (T_X11_stores_0 (fun c l M => some (.inl (c, l, M))) (fun v M => some (.inr (v, M))) none n a0 x1 s.2.2))) else if s.1 = 12 then vR s.2.1 none (fun a0 t => vI t none (fun x1 t => vI t none (fun x2 t => vE t none (T_X11_stores_12 (fun c l M => some (.inl (c, l, M))) (fun v M => some (.inr (v, M))) none n a0 x1 x2 s.2.2)))) else none
noncomputable abbrev g_X11_stores_0 (n : Nat) (a0 : Nat) (x1 : Int32) (M : Mem) : Option (Unit × Mem) := lp (st_X11_stores n) (0, [.ref a0, .int x1], M)
set_option maxHeartbeats 4000000 in
set_option maxRecDepth 100000 in
theorem ge_X11_stores_0 (n : Nat) (a0 : Nat) (x1 : Int32) (M : Mem) : g_X11_stores_0 n a0 x1 M = T_X11_stores_0 (fun c l M => lp (st_X11_stores n) (c, l, M)) (fun v M => some (v, M)) none n a0 x1 M := (lp_eq _ _).trans (n_X11_stores_0 (lpK (st_X11_stores n)) (fun c l M => some (.inl (c, l, M))) (fun v M => some (.inr (v, M))) none n a0 x1 M)
noncomputable abbrev g_X11_stores_12 (n : Nat) (a0 : Nat) (x1 : Int32) (x2 : Int32) (M : Mem) : Option (Unit × Mem) := lp (st_X11_stores n) (12, [.ref a0, .int x1, .int x2], M)
set_option maxHeartbeats 4000000 in
set_option maxRecDepth 100000 in
theorem ge_X11_stores_12 (n : Nat) (a0 : Nat) (x1 : Int32) (x2 : Int32) (M : Mem) : g_X11_stores_12 n a0 x1 x2 M = T_X11_stores_12 (fun c l M => lp (st_X11_stores n) (c, l, M)) (fun v M => some (v, M)) none n a0 x1 x2 M := (lp_eq _ _).trans (n_X11_stores_12 (lpK (st_X11_stores n)) (fun c l M => some (.inl (c, l, M))) (fun v M => some (.inr (v, M))) none n a0 x1 x2 M)
noncomputable def b_X11_stores (n : Nat) (a0 : Nat) (x1 : Int32) (M : Mem) : Option (Unit × Mem) := g_X11_stores_0 n a0 x1 M
set_option maxHeartbeats 4000000 in
set_option maxRecDepth 100000 in
theorem sb_X11_stores {X : Nat × (Nat → Int32)} {al : Bool} {n : Nat} {a0 : Nat} {x1 : Int32} {M : Mem} {v : Unit} {M1 : Mem} (h : b_X11_stores n a0 x1 M = some (v, M1)) : AE yX11_stores cX11_stores 3 none al n X [.ref a0, .int x1] M none M1 := by
  refine AM.of false (by decide +kernel) (by intro h; cases h) (Nat.le_of_ble_eq_true rfl) ?_
  refine lp_snd (P := fun s r => PW_X11_stores X al n (fun v M2 => v = none ∧ M2 = r.2) s.1 s.2.1 s.2.2) ?_ h
  clear h
  rintro ⟨c, l, M⟩ r h
  unfold st_X11_stores at h
  rcases ite_p h with ⟨e, h⟩ | ⟨e, h⟩
  · replace e : c = 0 := e
    subst e
    obtain ⟨a0, tt0, e, h⟩ := vR_p id h
    replace e : l = _ := e
    subst e
    obtain ⟨x1, tt1, e, h⟩ := vI_p id h
    replace e : tt0 = _ := e
    subst e
    obtain ⟨e, h⟩ := vE_p id h
    replace e : tt1 = [] := e
    subst e
    exact w_X11_stores_0 (J := fun c l M => PW_X11_stores X al n (fun v M2 => v = none ∧ M2 = r.2) c l M) (R := fun v M => (v, M) = r) (fun _ _ _ h => h) (fun v M h => by cases h; exact ⟨rfl, rfl⟩) ((n_X11_stores_0 (lpP (fun (s : Sg) (r : Unit × Mem) => PW_X11_stores X al n (fun v M2 => v = none ∧ M2 = r.2) s.1 s.2.1 s.2.2) r) (fun c l M => some (.inl (c, l, M))) (fun v M => some (.inr (v, M))) none n a0 x1 M).mp h)
  rcases ite_p h with ⟨e, h⟩ | ⟨e, h⟩
  · replace e : c = 12 := e
    subst e
    obtain ⟨a0, tt0, e, h⟩ := vR_p id h
    replace e : l = _ := e
    subst e
    obtain ⟨x1, tt1, e, h⟩ := vI_p id h
    replace e : tt0 = _ := e
    subst e
    obtain ⟨x2, tt2, e, h⟩ := vI_p id h
    replace e : tt1 = _ := e
    subst e
    obtain ⟨e, h⟩ := vE_p id h
    replace e : tt2 = [] := e
    subst e
    exact w_X11_stores_12 (J := fun c l M => PW_X11_stores X al n (fun v M2 => v = none ∧ M2 = r.2) c l M) (R := fun v M => (v, M) = r) (fun _ _ _ h => h) (fun v M h => by cases h; exact ⟨rfl, rfl⟩) ((n_X11_stores_12 (lpP (fun (s : Sg) (r : Unit × Mem) => PW_X11_stores X al n (fun v M2 => v = none ∧ M2 = r.2) s.1 s.2.1 s.2.2) r) (fun c l M => some (.inl (c, l, M))) (fun v M => some (.inr (v, M))) none n a0 x1 x2 M).mp h)
  · exact h.elim

noncomputable abbrev f_X11_stores := b_X11_stores
theorem s_X11_stores {X : Nat × (Nat → Int32)} {al : Bool} {n : Nat} {a0 : Nat} {x1 : Int32} {M : Mem} {v : Unit} {M1 : Mem} (h : f_X11_stores n a0 x1 M = some (v, M1)) : AE yX11_stores cX11_stores 3 none al n X [.ref a0, .int x1] M none M1 := sb_X11_stores h
def ix_X11_proof (c : Nat) : List Nat := if c = 0 then [0, 1, 2] else if c = 86 then [0, 1] else []
def PW_X11_proof (X : Nat × (Nat → Int32)) (al : Bool) (n : Nat) (Q : Option Value → Mem → Prop) (c : Nat) (l : List Value) (M : Mem) : Prop := AW X (RX11, cX11_proof, 3, (some .int), false, al, n) 0 0 c (List.zip (ix_X11_proof c) l) (l.drop (ix_X11_proof c).length) M Q
set_option maxHeartbeats 4000000 in
set_option maxRecDepth 100000 in
noncomputable def T_X11_proof_0.{u} {α : Sort u} (J : Nat → List Value → Mem → α) (R : Int32 → Mem → α) (N : α) (n : Nat) (a0 : Nat) (x1 : Int32) (x2 : Int32) (M : Mem) : α := gd (fO M a0 11) N (bnd2 (cal n (fun n => f_X11_isSlot n x1 (wI M a0 0 0))) N (fun v3 M4 => if v3 = 0 then R (-2) M4 else gd (fO M4 a0 11) N (bnd2 (cal n (fun n => f_X11_isIn n (Int32.toInt64 x2) 0 (Int32.toInt64 (M4.2.2.1 a0 27)) M4)) N (fun v11 M12 => if v11 = 0 then R (-3) M12 else gd (fO M12 a0 11) N (bnd2 (cal n (fun n => f_X11_begins n a0 x2 (wI M12 a0 24 0))) N (fun _ M19 => gd (fO M19 a0 11) N (bnd2 (cal n (fun n => f_X11_readTerm n a0 (wI M19 a0 39 0))) N (fun _ M25 => gd (fO M25 a0 11) N (if (M25.2.2.1 a0 30) = 0 then bnd2 (cal n (fun n => f_X11_isOver n a0 M25)) N (fun v38 M39 => if v38 = 0 then gd (fO M39 a0 11) N (bnd2 (cal n (fun n => f_X11_fails n a0 1 (M39.2.2.1 a0 29) M39)) N (fun _ M54 => gd (fO M54 a0 11) N (if (M54.2.2.1 a0 30) = 0 then bnd2 (cal n (fun n => f_X11_proves n a0 M54)) N (fun v61 M62 => J 86 [.ref a0, .int x1] M62) else J 86 [.ref a0, .int x1] M54))) else gd (fO M39 a0 11) N (if (M39.2.2.1 a0 30) = 0 then bnd2 (cal n (fun n => f_X11_proves n a0 M39)) N (fun v47 M48 => J 86 [.ref a0, .int x1] M48) else J 86 [.ref a0, .int x1] M39)) else if (M25.2.2.1 a0 30) = 0 then bnd2 (cal n (fun n => f_X11_proves n a0 M25)) N (fun v33 M34 => J 86 [.ref a0, .int x1] M34) else J 86 [.ref a0, .int x1] M25)))))))))
set_option maxHeartbeats 4000000 in
set_option maxRecDepth 100000 in
theorem n_X11_proof_0.{u, v} {α : Sort u} {β : Sort v} (h : α → β) (J : Nat → List Value → Mem → α) (R : Int32 → Mem → α) (N : α) (n : Nat) (a0 : Nat) (x1 : Int32) (x2 : Int32) (M : Mem) : h (T_X11_proof_0 J R N n a0 x1 x2 M) = T_X11_proof_0 (fun c l M => h (J c l M)) (fun v M => h (R v M)) (h N) n a0 x1 x2 M := by
  simp only [T_X11_proof_0, nat_ite h, nat_gd h, nat_bnd h, nat_bnd2 h]
set_option maxHeartbeats 4000000 in
set_option maxRecDepth 100000 in
theorem w_X11_proof_0 {X : Nat × (Nat → Int32)} {al : Bool} {n : Nat} {Q : Option Value → Mem → Prop} {J : Nat → List Value → Mem → Prop} (hJ : ∀ c l M, J c l M → PW_X11_proof X al n Q c l M) {R : Int32 → Mem → Prop} (hR : ∀ v M, R v M → Q (some (.int v)) M) {a0 : Nat} {x1 : Int32} {x2 : Int32} {M : Mem} (h : T_X11_proof_0 J R False n a0 x1 x2 M) : AW X (RX11, cX11_proof, 3, (some .int), false, al, n) 0 0 0 [(0, .ref a0), (1, .int x1), (2, .int x2)] [] M Q := by
  unfold T_X11_proof_0 at h
  refine a_aload_n dX11_proof_0 rfl rfl ?_
  refine a_iconst (v := 0) dX11_proof_1 (by decide) ?_
  obtain ⟨⟨ga1, gs2⟩, h⟩ := gd_t h
  refine a_putI dX11_proof_2 (Or.inl ⟨fl_11_1, Or.inl rfl⟩) rfl ga1 gs2 rfl rfl ?_
  refine a_iload_n dX11_proof_5 rfl rfl ?_
  obtain ⟨v3, M4, e5, h⟩ := bnd2_t h
  obtain ⟨n6, en7, e5⟩ := cal_t e5
  refine e_callS (As := [.int x1]) (st := []) false dX11_proof_6 mw_X11_isSlot (Or.inl ⟨rfl, ml_X11_271⟩) sm_X11_isSlot rfl (Nat.le_of_ble_eq_true rfl) en7 (s_X11_isSlot e5) ?_
  refine a_if_ne 15 dX11_proof_9 (by decide) (fun c8 => ?_) (fun c8 => ?_)
  · replace h := ite_f c8 h
    refine a_iload_n dX11_proof_15 rfl rfl ?_
    refine a_i2l dX11_proof_16 ?_
    refine a_lconst (v := 0) dX11_proof_17 (by decide) ?_
    refine a_aload_n dX11_proof_18 rfl rfl ?_
    obtain ⟨⟨ga9, gs10⟩, h⟩ := gd_t h
    refine a_get (v := .int (M4.2.2.1 a0 27)) dX11_proof_19 fl_11_154 ga9 gs10 rfl ?_
    refine a_i2l dX11_proof_22 ?_
    obtain ⟨v11, M12, e13, h⟩ := bnd2_t h
    obtain ⟨n14, en15, e13⟩ := cal_t e13
    refine e_callS (As := [.long (Int32.toInt64 x2), .long 0, .long (Int32.toInt64 (M4.2.2.1 a0 27))]) (st := []) false dX11_proof_23 mw_X11_isIn (Or.inl ⟨rfl, ml_X11_180⟩) sm_X11_isIn rfl (Nat.le_of_ble_eq_true rfl) en15 (s_X11_isIn e13) ?_
    refine a_if_ne 32 dX11_proof_26 (by decide) (fun c16 => ?_) (fun c16 => ?_)
    · replace h := ite_f c16 h
      refine a_aload_n dX11_proof_32 rfl rfl ?_
      refine a_iconst (v := 0) dX11_proof_33 (by decide) ?_
      obtain ⟨⟨ga17, gs18⟩, h⟩ := gd_t h
      refine a_putI dX11_proof_34 (Or.inl ⟨fl_11_151, Or.inl rfl⟩) rfl ga17 gs18 rfl rfl ?_
      refine a_aload_n dX11_proof_37 rfl rfl ?_
      refine a_iload_n dX11_proof_38 rfl rfl ?_
      obtain ⟨_, M19, e20, h⟩ := bnd2_t h
      obtain ⟨n21, en22, e20⟩ := cal_t e20
      refine e_callV (As := [.int x2]) (st := []) (a := a0) (ci := 11) false dX11_proof_39 mw_X11_begins (Or.inl ⟨rfl, ml_X11_234⟩) im_X11_begins se_X11_begins (by decide) ga17 gs18 rfl (Nat.le_of_ble_eq_true rfl) en22 (s_X11_begins e20) ?_
      refine a_aload_n dX11_proof_42 rfl rfl ?_
      refine a_iconst (v := 0) dX11_proof_43 (by decide) ?_
      obtain ⟨⟨ga23, gs24⟩, h⟩ := gd_t h
      refine a_putI dX11_proof_44 (Or.inl ⟨fl_11_247, Or.inl rfl⟩) rfl ga23 gs24 rfl rfl ?_
      refine a_aload_n dX11_proof_47 rfl rfl ?_
      obtain ⟨_, M25, e26, h⟩ := bnd2_t h
      obtain ⟨n27, en28, e26⟩ := cal_t e26
      refine e_callV (As := []) (st := []) (a := a0) (ci := 11) false dX11_proof_48 mw_X11_readTerm (Or.inl ⟨rfl, ml_X11_268⟩) im_X11_readTerm se_X11_readTerm (by decide) ga23 gs24 rfl (Nat.le_of_ble_eq_true rfl) en28 (s_X11_readTerm e26) ?_
      refine a_aload_n dX11_proof_51 rfl rfl ?_
      obtain ⟨⟨ga29, gs30⟩, h⟩ := gd_t h
      refine a_get (v := .int (M25.2.2.1 a0 30)) dX11_proof_52 fl_11_163 ga29 gs30 rfl ?_
      refine a_if_ne 74 dX11_proof_55 (by decide) (fun c31 => ?_) (fun c31 => ?_)
      · replace h := ite_f c31 h
        refine a_aload_n dX11_proof_74 rfl rfl ?_
        refine a_get (v := .int (M25.2.2.1 a0 30)) dX11_proof_75 fl_11_163 ga29 gs30 rfl ?_
        refine a_if_ne 86 dX11_proof_78 (by decide) (fun c32 => ?_) (fun c32 => ?_)
        · replace h := ite_f c32 h
          exact a_lv (lv2 := [(0, .ref a0), (1, .int x1)]) (fa_cons rfl (fa_cons rfl fa_nil)) (hJ _ _ _ h)
        · replace h := ite_t c32 h
          refine a_aload_n dX11_proof_81 rfl rfl ?_
          obtain ⟨v33, M34, e35, h⟩ := bnd2_t h
          obtain ⟨n36, en37, e35⟩ := cal_t e35
          refine e_callV (As := []) (st := []) (a := a0) (ci := 11) false dX11_proof_82 mw_X11_proves (Or.inl ⟨rfl, ml_X11_275⟩) im_X11_proves se_X11_proves (by decide) ga29 gs30 rfl (Nat.le_of_ble_eq_true rfl) en37 (s_X11_proves e35) ?_
          refine a_pop dX11_proof_85 rfl ?_
          exact a_lv (lv2 := [(0, .ref a0), (1, .int x1)]) (fa_cons rfl (fa_cons rfl fa_nil)) (hJ _ _ _ h)
      · replace h := ite_t c31 h
        refine a_aload_n dX11_proof_58 rfl rfl ?_
        obtain ⟨v38, M39, e40, h⟩ := bnd2_t h
        obtain ⟨n41, en42, e40⟩ := cal_t e40
        refine e_callV (As := []) (st := []) (a := a0) (ci := 11) false dX11_proof_59 mw_X11_isOver (Or.inl ⟨rfl, ml_X11_237⟩) im_X11_isOver se_X11_isOver (by decide) ga29 gs30 rfl (Nat.le_of_ble_eq_true rfl) en42 (s_X11_isOver e40) ?_
        refine a_if_ne 74 dX11_proof_62 (by decide) (fun c43 => ?_) (fun c43 => ?_)
        · replace h := ite_f c43 h
          refine a_aload_n dX11_proof_74 rfl rfl ?_
          obtain ⟨⟨ga44, gs45⟩, h⟩ := gd_t h
          refine a_get (v := .int (M39.2.2.1 a0 30)) dX11_proof_75 fl_11_163 ga44 gs45 rfl ?_
          refine a_if_ne 86 dX11_proof_78 (by decide) (fun c46 => ?_) (fun c46 => ?_)
          · replace h := ite_f c46 h
            exact a_lv (lv2 := [(0, .ref a0), (1, .int x1)]) (fa_cons rfl (fa_cons rfl fa_nil)) (hJ _ _ _ h)
          · replace h := ite_t c46 h
            refine a_aload_n dX11_proof_81 rfl rfl ?_
            obtain ⟨v47, M48, e49, h⟩ := bnd2_t h
            obtain ⟨n50, en51, e49⟩ := cal_t e49
            refine e_callV (As := []) (st := []) (a := a0) (ci := 11) false dX11_proof_82 mw_X11_proves (Or.inl ⟨rfl, ml_X11_275⟩) im_X11_proves se_X11_proves (by decide) ga44 gs45 rfl (Nat.le_of_ble_eq_true rfl) en51 (s_X11_proves e49) ?_
            refine a_pop dX11_proof_85 rfl ?_
            exact a_lv (lv2 := [(0, .ref a0), (1, .int x1)]) (fa_cons rfl (fa_cons rfl fa_nil)) (hJ _ _ _ h)
        · replace h := ite_t c43 h
          refine a_aload_n dX11_proof_65 rfl rfl ?_
          refine a_iconst (v := 1) dX11_proof_66 (by decide) ?_
          refine a_aload_n dX11_proof_67 rfl rfl ?_
          obtain ⟨⟨ga52, gs53⟩, h⟩ := gd_t h
          refine a_get (v := .int (M39.2.2.1 a0 29)) dX11_proof_68 fl_11_157 ga52 gs53 rfl ?_
          obtain ⟨_, M54, e55, h⟩ := bnd2_t h
          obtain ⟨n56, en57, e55⟩ := cal_t e55
          refine e_callV (As := [.int 1, .int (M39.2.2.1 a0 29)]) (st := []) (a := a0) (ci := 11) false dX11_proof_71 mw_X11_fails (Or.inl ⟨rfl, ml_X11_209⟩) im_X11_fails se_X11_fails (by decide) ga52 gs53 rfl (Nat.le_of_ble_eq_true rfl) en57 (s_X11_fails e55) ?_
          refine a_aload_n dX11_proof_74 rfl rfl ?_
          obtain ⟨⟨ga58, gs59⟩, h⟩ := gd_t h
          refine a_get (v := .int (M54.2.2.1 a0 30)) dX11_proof_75 fl_11_163 ga58 gs59 rfl ?_
          refine a_if_ne 86 dX11_proof_78 (by decide) (fun c60 => ?_) (fun c60 => ?_)
          · replace h := ite_f c60 h
            exact a_lv (lv2 := [(0, .ref a0), (1, .int x1)]) (fa_cons rfl (fa_cons rfl fa_nil)) (hJ _ _ _ h)
          · replace h := ite_t c60 h
            refine a_aload_n dX11_proof_81 rfl rfl ?_
            obtain ⟨v61, M62, e63, h⟩ := bnd2_t h
            obtain ⟨n64, en65, e63⟩ := cal_t e63
            refine e_callV (As := []) (st := []) (a := a0) (ci := 11) false dX11_proof_82 mw_X11_proves (Or.inl ⟨rfl, ml_X11_275⟩) im_X11_proves se_X11_proves (by decide) ga58 gs59 rfl (Nat.le_of_ble_eq_true rfl) en65 (s_X11_proves e63) ?_
            refine a_pop dX11_proof_85 rfl ?_
            exact a_lv (lv2 := [(0, .ref a0), (1, .int x1)]) (fa_cons rfl (fa_cons rfl fa_nil)) (hJ _ _ _ h)
    · replace h := ite_t c16 h
      refine a_bipush (v := -3) dX11_proof_29 (by decide) ?_
      exact a_iret dX11_proof_31 rfl (hR _ _ h)
  · replace h := ite_t c8 h
    refine a_bipush (v := -2) dX11_proof_12 (by decide) ?_
    exact a_iret dX11_proof_14 rfl (hR _ _ h)
set_option maxHeartbeats 4000000 in
set_option maxRecDepth 100000 in
noncomputable def T_X11_proof_86.{u} {α : Sort u} (J : Nat → List Value → Mem → α) (R : Int32 → Mem → α) (N : α) (n : Nat) (a0 : Nat) (x1 : Int32) (M : Mem) : α := gd (fO M a0 11) N (bnd2 (cal n (fun n => f_X11_settles n a0 M)) N (fun v3 M4 => if v3 = 0 then gd (fO M4 a0 11) N (bnd2 (cal n (fun n => f_X11_stores n a0 x1 M4)) N (fun _ M11 => gd (fO M11 a0 11) N (R (M11.2.2.1 a0 24) M11))) else gd (fO M4 a0 11) N (R ((-30) - (M4.2.2.1 a0 30)) M4)))
set_option maxHeartbeats 4000000 in
set_option maxRecDepth 100000 in
theorem n_X11_proof_86.{u, v} {α : Sort u} {β : Sort v} (h : α → β) (J : Nat → List Value → Mem → α) (R : Int32 → Mem → α) (N : α) (n : Nat) (a0 : Nat) (x1 : Int32) (M : Mem) : h (T_X11_proof_86 J R N n a0 x1 M) = T_X11_proof_86 (fun c l M => h (J c l M)) (fun v M => h (R v M)) (h N) n a0 x1 M := by
  simp only [T_X11_proof_86, nat_ite h, nat_gd h, nat_bnd h, nat_bnd2 h]
set_option maxHeartbeats 4000000 in
set_option maxRecDepth 100000 in
theorem w_X11_proof_86 {X : Nat × (Nat → Int32)} {al : Bool} {n : Nat} {Q : Option Value → Mem → Prop} {J : Nat → List Value → Mem → Prop} (hJ : ∀ c l M, J c l M → PW_X11_proof X al n Q c l M) {R : Int32 → Mem → Prop} (hR : ∀ v M, R v M → Q (some (.int v)) M) {a0 : Nat} {x1 : Int32} {M : Mem} (h : T_X11_proof_86 J R False n a0 x1 M) : AW X (RX11, cX11_proof, 3, (some .int), false, al, n) 0 0 86 [(0, .ref a0), (1, .int x1)] [] M Q := by
  unfold T_X11_proof_86 at h
  refine a_aload_n dX11_proof_86 rfl rfl ?_
  obtain ⟨⟨ga1, gs2⟩, h⟩ := gd_t h
  obtain ⟨v3, M4, e5, h⟩ := bnd2_t h
  obtain ⟨n6, en7, e5⟩ := cal_t e5
  refine e_callV (As := []) (st := []) (a := a0) (ci := 11) false dX11_proof_87 mw_X11_settles (Or.inl ⟨rfl, ml_X11_244⟩) im_X11_settles se_X11_settles (by decide) ga1 gs2 rfl (Nat.le_of_ble_eq_true rfl) en7 (s_X11_settles e5) ?_
  refine a_if_eq 101 dX11_proof_90 (by decide) (fun c8 => ?_) (fun c8 => ?_)
  · replace h := ite_t c8 h
    refine a_aload_n dX11_proof_101 rfl rfl ?_
    refine a_iload_n dX11_proof_102 rfl rfl ?_
    obtain ⟨⟨ga9, gs10⟩, h⟩ := gd_t h
    obtain ⟨_, M11, e12, h⟩ := bnd2_t h
    obtain ⟨n13, en14, e12⟩ := cal_t e12
    refine e_callV (As := [.int x1]) (st := []) (a := a0) (ci := 11) false dX11_proof_103 mw_X11_stores (Or.inl ⟨rfl, ml_X11_278⟩) im_X11_stores se_X11_stores (by decide) ga9 gs10 rfl (Nat.le_of_ble_eq_true rfl) en14 (s_X11_stores e12) ?_
    refine a_aload_n dX11_proof_106 rfl rfl ?_
    obtain ⟨⟨ga15, gs16⟩, h⟩ := gd_t h
    refine a_get (v := .int (M11.2.2.1 a0 24)) dX11_proof_107 fl_11_151 ga15 gs16 rfl ?_
    exact a_iret dX11_proof_110 rfl (hR _ _ h)
  · replace h := ite_f c8 h
    refine a_bipush (v := -30) dX11_proof_93 (by decide) ?_
    refine a_aload_n dX11_proof_95 rfl rfl ?_
    obtain ⟨⟨ga17, gs18⟩, h⟩ := gd_t h
    refine a_get (v := .int (M4.2.2.1 a0 30)) dX11_proof_96 fl_11_163 ga17 gs18 rfl ?_
    refine a_isub dX11_proof_99 ?_
    exact a_iret dX11_proof_100 rfl (hR _ _ h)
set_option maxHeartbeats 4000000 in
set_option maxRecDepth 100000 in
noncomputable def st_X11_proof (n : Nat) (s : Sg) : Option (Sg ⊕ (Int32 × Mem)) := if s.1 = 0 then vR s.2.1 none (fun a0 t => vI t none (fun x1 t => vI t none (fun x2 t => vE t none (T_X11_proof_0 (fun c l M => some (.inl (c, l, M))) (fun v M => some (.inr (v, M))) none n a0 x1 x2 s.2.2)))) else if s.1 = 86 then vR s.2.1 none (fun a0 t => vI t none (fun x1 t => vE t none (T_X11_proof_86 (fun c l M => some (.inl (c, l, M))) (fun v M => some (.inr (v, M))) none n a0 x1 s.2.2))) else none
noncomputable abbrev g_X11_proof_0 (n : Nat) (a0 : Nat) (x1 : Int32) (x2 : Int32) (M : Mem) : Option (Int32 × Mem) := lp (st_X11_proof n) (0, [.ref a0, .int x1, .int x2], M)
set_option maxHeartbeats 4000000 in
set_option maxRecDepth 100000 in
theorem ge_X11_proof_0 (n : Nat) (a0 : Nat) (x1 : Int32) (x2 : Int32) (M : Mem) : g_X11_proof_0 n a0 x1 x2 M = T_X11_proof_0 (fun c l M => lp (st_X11_proof n) (c, l, M)) (fun v M => some (v, M)) none n a0 x1 x2 M := (lp_eq _ _).trans (n_X11_proof_0 (lpK (st_X11_proof n)) (fun c l M => some (.inl (c, l, M))) (fun v M => some (.inr (v, M))) none n a0 x1 x2 M)
noncomputable abbrev g_X11_proof_86 (n : Nat) (a0 : Nat) (x1 : Int32) (M : Mem) : Option (Int32 × Mem) := lp (st_X11_proof n) (86, [.ref a0, .int x1], M)
set_option maxHeartbeats 4000000 in
set_option maxRecDepth 100000 in
theorem ge_X11_proof_86 (n : Nat) (a0 : Nat) (x1 : Int32) (M : Mem) : g_X11_proof_86 n a0 x1 M = T_X11_proof_86 (fun c l M => lp (st_X11_proof n) (c, l, M)) (fun v M => some (v, M)) none n a0 x1 M := (lp_eq _ _).trans (n_X11_proof_86 (lpK (st_X11_proof n)) (fun c l M => some (.inl (c, l, M))) (fun v M => some (.inr (v, M))) none n a0 x1 M)
noncomputable def b_X11_proof (n : Nat) (a0 : Nat) (x1 : Int32) (x2 : Int32) (M : Mem) : Option (Int32 × Mem) := g_X11_proof_0 n a0 x1 x2 M
set_option maxHeartbeats 4000000 in
set_option maxRecDepth 100000 in
theorem sb_X11_proof {X : Nat × (Nat → Int32)} {al : Bool} {n : Nat} {a0 : Nat} {x1 : Int32} {x2 : Int32} {M : Mem} {v : Int32} {M1 : Mem} (h : b_X11_proof n a0 x1 x2 M = some (v, M1)) : AE yX11_proof cX11_proof 3 (some .int) al n X [.ref a0, .int x1, .int x2] M (some (.int v)) M1 := by
  refine AM.of false (by decide +kernel) (by intro h; cases h) (Nat.le_of_ble_eq_true rfl) ?_
  refine lp_snd (P := fun s r => PW_X11_proof X al n (fun v M2 => v = (some (.int r.1)) ∧ M2 = r.2) s.1 s.2.1 s.2.2) ?_ h
  clear h
  rintro ⟨c, l, M⟩ r h
  unfold st_X11_proof at h
  rcases ite_p h with ⟨e, h⟩ | ⟨e, h⟩
  · replace e : c = 0 := e
    subst e
    obtain ⟨a0, tt0, e, h⟩ := vR_p id h
    replace e : l = _ := e
    subst e
    obtain ⟨x1, tt1, e, h⟩ := vI_p id h
    replace e : tt0 = _ := e
    subst e
    obtain ⟨x2, tt2, e, h⟩ := vI_p id h
    replace e : tt1 = _ := e
    subst e
    obtain ⟨e, h⟩ := vE_p id h
    replace e : tt2 = [] := e
    subst e
    exact w_X11_proof_0 (J := fun c l M => PW_X11_proof X al n (fun v M2 => v = (some (.int r.1)) ∧ M2 = r.2) c l M) (R := fun v M => (v, M) = r) (fun _ _ _ h => h) (fun v M h => by cases h; exact ⟨rfl, rfl⟩) ((n_X11_proof_0 (lpP (fun (s : Sg) (r : Int32 × Mem) => PW_X11_proof X al n (fun v M2 => v = (some (.int r.1)) ∧ M2 = r.2) s.1 s.2.1 s.2.2) r) (fun c l M => some (.inl (c, l, M))) (fun v M => some (.inr (v, M))) none n a0 x1 x2 M).mp h)
  rcases ite_p h with ⟨e, h⟩ | ⟨e, h⟩
  · replace e : c = 86 := e
    subst e
    obtain ⟨a0, tt0, e, h⟩ := vR_p id h
    replace e : l = _ := e
    subst e
    obtain ⟨x1, tt1, e, h⟩ := vI_p id h
    replace e : tt0 = _ := e
    subst e
    obtain ⟨e, h⟩ := vE_p id h
    replace e : tt1 = [] := e
    subst e
    exact w_X11_proof_86 (J := fun c l M => PW_X11_proof X al n (fun v M2 => v = (some (.int r.1)) ∧ M2 = r.2) c l M) (R := fun v M => (v, M) = r) (fun _ _ _ h => h) (fun v M h => by cases h; exact ⟨rfl, rfl⟩) ((n_X11_proof_86 (lpP (fun (s : Sg) (r : Int32 × Mem) => PW_X11_proof X al n (fun v M2 => v = (some (.int r.1)) ∧ M2 = r.2) s.1 s.2.1 s.2.2) r) (fun c l M => some (.inl (c, l, M))) (fun v M => some (.inr (v, M))) none n a0 x1 M).mp h)
  · exact h.elim

noncomputable abbrev f_X11_proof := b_X11_proof
theorem s_X11_proof {X : Nat × (Nat → Int32)} {al : Bool} {n : Nat} {a0 : Nat} {x1 : Int32} {x2 : Int32} {M : Mem} {v : Int32} {M1 : Mem} (h : f_X11_proof n a0 x1 x2 M = some (v, M1)) : AE yX11_proof cX11_proof 3 (some .int) al n X [.ref a0, .int x1, .int x2] M (some (.int v)) M1 := sb_X11_proof h
set_option maxHeartbeats 4000000 in
set_option maxRecDepth 100000 in
noncomputable def T_X10_fault_0.{u} {α : Sort u} (R : Int32 → Mem → α) (N : α) (n : Nat) (a0 : Nat) (x1 : Int32) (M : Mem) : α := if x1 = 0 then gd (fO M a0 10) N (bnd (M.2.2.2.2 a0 4) N (fun r11 => gd (fO M r11 6) N (R (M.2.2.1 r11 17) M))) else if x1 = 1 then gd (fO M a0 10) N (bnd (M.2.2.2.2 a0 4) N (fun r5 => gd (fO M r5 6) N (R (M.2.2.1 r5 18) M))) else R (-1) M
set_option maxHeartbeats 4000000 in
set_option maxRecDepth 100000 in
theorem n_X10_fault_0.{u, v} {α : Sort u} {β : Sort v} (h : α → β) (R : Int32 → Mem → α) (N : α) (n : Nat) (a0 : Nat) (x1 : Int32) (M : Mem) : h (T_X10_fault_0 R N n a0 x1 M) = T_X10_fault_0 (fun v M => h (R v M)) (h N) n a0 x1 M := by
  simp only [T_X10_fault_0, nat_ite h, nat_gd h, nat_bnd h, nat_bnd2 h]
set_option maxHeartbeats 4000000 in
set_option maxRecDepth 100000 in
theorem w_X10_fault_0 {X : Nat × (Nat → Int32)} {al : Bool} {n : Nat} {Q : Option Value → Mem → Prop} {R : Int32 → Mem → Prop} (hR : ∀ v M, R v M → Q (some (.int v)) M) {a0 : Nat} {x1 : Int32} {M : Mem} (h : T_X10_fault_0 R False n a0 x1 M) : AW X (RX10, cX10_fault, 2, (some .int), false, al, n) 0 0 0 [(0, .ref a0), (1, .int x1)] [] M Q := by
  unfold T_X10_fault_0 at h
  refine a_iload_n dX10_fault_0 rfl rfl ?_
  refine a_if_ne 12 dX10_fault_1 (by decide) (fun c1 => ?_) (fun c1 => ?_)
  · replace h := ite_f c1 h
    refine a_iload_n dX10_fault_12 rfl rfl ?_
    refine a_iconst (v := 1) dX10_fault_13 (by decide) ?_
    refine a_icmp_ne 27 dX10_fault_14 (by decide) (fun c2 => ?_) (fun c2 => ?_)
    · replace h := ite_f c2 h
      refine a_iconst (v := -1) dX10_fault_27 (by decide) ?_
      exact a_iret dX10_fault_28 rfl (hR _ _ h)
    · replace h := ite_t c2 h
      refine a_aload_n dX10_fault_17 rfl rfl ?_
      obtain ⟨⟨ga3, gs4⟩, h⟩ := gd_t h
      obtain ⟨r5, e6, h⟩ := bnd_t h
      refine a_get (v := .ref r5) dX10_fault_18 fl_10_32 ga3 gs4 (gvR e6 rfl) ?_
      obtain ⟨⟨ga7, gs8⟩, h⟩ := gd_t h
      refine a_getN (v := .int (M.2.2.1 r5 18)) dX10_fault_21 fn_10_174 ga7 gs8 rfl ?_
      refine a_goto 28 dX10_fault_24 (by decide) ?_
      exact a_iret dX10_fault_28 rfl (hR _ _ h)
  · replace h := ite_t c1 h
    refine a_aload_n dX10_fault_4 rfl rfl ?_
    obtain ⟨⟨ga9, gs10⟩, h⟩ := gd_t h
    obtain ⟨r11, e12, h⟩ := bnd_t h
    refine a_get (v := .ref r11) dX10_fault_5 fl_10_32 ga9 gs10 (gvR e12 rfl) ?_
    obtain ⟨⟨ga13, gs14⟩, h⟩ := gd_t h
    refine a_getN (v := .int (M.2.2.1 r11 17)) dX10_fault_8 fn_10_126 ga13 gs14 rfl ?_
    exact a_iret dX10_fault_11 rfl (hR _ _ h)
noncomputable def b_X10_fault (n : Nat) (a0 : Nat) (x1 : Int32) (M : Mem) : Option (Int32 × Mem) := T_X10_fault_0 (fun v M => some (v, M)) none n a0 x1 M
set_option maxHeartbeats 4000000 in
set_option maxRecDepth 100000 in
theorem sb_X10_fault {X : Nat × (Nat → Int32)} {al : Bool} {n : Nat} {a0 : Nat} {x1 : Int32} {M : Mem} {v : Int32} {M1 : Mem} (h : b_X10_fault n a0 x1 M = some (v, M1)) : AE yX10_fault cX10_fault 2 (some .int) al n X [.ref a0, .int x1] M (some (.int v)) M1 := by
  refine AM.of false (by decide +kernel) (by intro h; cases h) (Nat.le_of_ble_eq_true rfl) ?_
  have h2 : T_X10_fault_0 (fun v2 M2 => some (v2, M2) = some (v, M1)) (none = some (v, M1)) n a0 x1 M := (n_X10_fault_0 (fun o => o = some (v, M1)) (fun v M => some (v, M)) none n a0 x1 M).mp h
  have h3 : ((none : Option (Int32 × Mem)) = some (v, M1)) = False := eq_false (by intro q; cases q)
  rw [h3] at h2
  exact w_X10_fault_0 (fun v2 M2 h => by cases h; exact ⟨rfl, rfl⟩) h2

noncomputable abbrev f_X10_fault := b_X10_fault
theorem s_X10_fault {X : Nat × (Nat → Int32)} {al : Bool} {n : Nat} {a0 : Nat} {x1 : Int32} {M : Mem} {v : Int32} {M1 : Mem} (h : f_X10_fault n a0 x1 M = some (v, M1)) : AE yX10_fault cX10_fault 2 (some .int) al n X [.ref a0, .int x1] M (some (.int v)) M1 := sb_X10_fault h
set_option maxHeartbeats 4000000 in
set_option maxRecDepth 100000 in
noncomputable def T_X11_fault_0.{u} {α : Sort u} (R : Int32 → Mem → α) (N : α) (n : Nat) (a0 : Nat) (x1 : Int32) (M : Mem) : α := gd (fO M a0 11) N (if x1 = 0 then R ((wI M a0 0 0).2.2.1 a0 32) (wI M a0 0 0) else if x1 = 1 then R ((wI M a0 0 0).2.2.1 a0 33) (wI M a0 0 0) else R (-1) (wI M a0 0 0))
set_option maxHeartbeats 4000000 in
set_option maxRecDepth 100000 in
theorem n_X11_fault_0.{u, v} {α : Sort u} {β : Sort v} (h : α → β) (R : Int32 → Mem → α) (N : α) (n : Nat) (a0 : Nat) (x1 : Int32) (M : Mem) : h (T_X11_fault_0 R N n a0 x1 M) = T_X11_fault_0 (fun v M => h (R v M)) (h N) n a0 x1 M := by
  simp only [T_X11_fault_0, nat_ite h, nat_gd h, nat_bnd h, nat_bnd2 h]
set_option maxHeartbeats 4000000 in
set_option maxRecDepth 100000 in
theorem w_X11_fault_0 {X : Nat × (Nat → Int32)} {al : Bool} {n : Nat} {Q : Option Value → Mem → Prop} {R : Int32 → Mem → Prop} (hR : ∀ v M, R v M → Q (some (.int v)) M) {a0 : Nat} {x1 : Int32} {M : Mem} (h : T_X11_fault_0 R False n a0 x1 M) : AW X (RX11, cX11_fault, 2, (some .int), false, al, n) 0 0 0 [(0, .ref a0), (1, .int x1)] [] M Q := by
  unfold T_X11_fault_0 at h
  refine a_aload_n dX11_fault_0 rfl rfl ?_
  refine a_iconst (v := 0) dX11_fault_1 (by decide) ?_
  obtain ⟨⟨ga1, gs2⟩, h⟩ := gd_t h
  refine a_putI dX11_fault_2 (Or.inl ⟨fl_11_1, Or.inl rfl⟩) rfl ga1 gs2 rfl rfl ?_
  refine a_iload_n dX11_fault_5 rfl rfl ?_
  refine a_if_ne 16 dX11_fault_6 (by decide) (fun c3 => ?_) (fun c3 => ?_)
  · replace h := ite_f c3 h
    refine a_iload_n dX11_fault_16 rfl rfl ?_
    refine a_iconst (v := 1) dX11_fault_17 (by decide) ?_
    refine a_icmp_ne 28 dX11_fault_18 (by decide) (fun c4 => ?_) (fun c4 => ?_)
    · replace h := ite_f c4 h
      refine a_iconst (v := -1) dX11_fault_28 (by decide) ?_
      exact a_iret dX11_fault_29 rfl (hR _ _ h)
    · replace h := ite_t c4 h
      refine a_aload_n dX11_fault_21 rfl rfl ?_
      refine a_get (v := .int ((wI M a0 0 0).2.2.1 a0 33)) dX11_fault_22 fl_11_75 ga1 gs2 rfl ?_
      refine a_goto 29 dX11_fault_25 (by decide) ?_
      exact a_iret dX11_fault_29 rfl (hR _ _ h)
  · replace h := ite_t c3 h
    refine a_aload_n dX11_fault_9 rfl rfl ?_
    refine a_get (v := .int ((wI M a0 0 0).2.2.1 a0 32)) dX11_fault_10 fl_11_201 ga1 gs2 rfl ?_
    refine a_goto 29 dX11_fault_13 (by decide) ?_
    exact a_iret dX11_fault_29 rfl (hR _ _ h)
noncomputable def b_X11_fault (n : Nat) (a0 : Nat) (x1 : Int32) (M : Mem) : Option (Int32 × Mem) := T_X11_fault_0 (fun v M => some (v, M)) none n a0 x1 M
set_option maxHeartbeats 4000000 in
set_option maxRecDepth 100000 in
theorem sb_X11_fault {X : Nat × (Nat → Int32)} {al : Bool} {n : Nat} {a0 : Nat} {x1 : Int32} {M : Mem} {v : Int32} {M1 : Mem} (h : b_X11_fault n a0 x1 M = some (v, M1)) : AE yX11_fault cX11_fault 2 (some .int) al n X [.ref a0, .int x1] M (some (.int v)) M1 := by
  refine AM.of false (by decide +kernel) (by intro h; cases h) (Nat.le_of_ble_eq_true rfl) ?_
  have h2 : T_X11_fault_0 (fun v2 M2 => some (v2, M2) = some (v, M1)) (none = some (v, M1)) n a0 x1 M := (n_X11_fault_0 (fun o => o = some (v, M1)) (fun v M => some (v, M)) none n a0 x1 M).mp h
  have h3 : ((none : Option (Int32 × Mem)) = some (v, M1)) = False := eq_false (by intro q; cases q)
  rw [h3] at h2
  exact w_X11_fault_0 (fun v2 M2 h => by cases h; exact ⟨rfl, rfl⟩) h2

noncomputable abbrev f_X11_fault := b_X11_fault
theorem s_X11_fault {X : Nat × (Nat → Int32)} {al : Bool} {n : Nat} {a0 : Nat} {x1 : Int32} {M : Mem} {v : Int32} {M1 : Mem} (h : f_X11_fault n a0 x1 M = some (v, M1)) : AE yX11_fault cX11_fault 2 (some .int) al n X [.ref a0, .int x1] M (some (.int v)) M1 := sb_X11_fault h
set_option maxHeartbeats 4000000 in
set_option maxRecDepth 100000 in
noncomputable def T_X10_drop_0.{u} {α : Sort u} (R : Int32 → Mem → α) (N : α) (n : Nat) (a0 : Nat) (x1 : Int32) (M : Mem) : α := bnd2 (cal n (fun n => f_X10_noSlot n x1 M)) N (fun v1 M2 => if v1 = 0 then gd (fO M2 a0 10) N (bnd (M2.2.2.2.2 a0 5) N (fun r9 => gd (fA M2 r9 4 x1) N (bnd (M2.2.2.2.2 r9 (x1.toNatClampNeg)) N (fun r15 => gd (fO M2 r15 9) N (bnd (M2.2.2.2.2 r9 (x1.toNatClampNeg)) N (fun r19 => gd (fO M2 r19 9) N (bnd2 (cal n (fun n => f_X9_clear n r19 M2)) N (fun _ M23 => R (M2.2.2.1 r15 2) M23)))))))) else R (-2) M2)
set_option maxHeartbeats 4000000 in
set_option maxRecDepth 100000 in
theorem n_X10_drop_0.{u, v} {α : Sort u} {β : Sort v} (h : α → β) (R : Int32 → Mem → α) (N : α) (n : Nat) (a0 : Nat) (x1 : Int32) (M : Mem) : h (T_X10_drop_0 R N n a0 x1 M) = T_X10_drop_0 (fun v M => h (R v M)) (h N) n a0 x1 M := by
  simp only [T_X10_drop_0, nat_ite h, nat_gd h, nat_bnd h, nat_bnd2 h]
set_option maxHeartbeats 4000000 in
set_option maxRecDepth 100000 in
theorem w_X10_drop_0 {X : Nat × (Nat → Int32)} {al : Bool} {n : Nat} {Q : Option Value → Mem → Prop} {R : Int32 → Mem → Prop} (hR : ∀ v M, R v M → Q (some (.int v)) M) {a0 : Nat} {x1 : Int32} {M : Mem} (h : T_X10_drop_0 R False n a0 x1 M) : AW X (RX10, cX10_drop, 3, (some .int), false, al, n) 0 0 0 [(0, .ref a0), (1, .int x1)] [] M Q := by
  unfold T_X10_drop_0 at h
  refine a_iload_n dX10_drop_0 rfl rfl ?_
  obtain ⟨v1, M2, e3, h⟩ := bnd2_t h
  obtain ⟨n4, en5, e3⟩ := cal_t e3
  refine e_callS (As := [.int x1]) (st := []) false dX10_drop_1 mw_X10_noSlot (Or.inl ⟨rfl, ml_X10_151⟩) sm_X10_noSlot rfl (Nat.le_of_ble_eq_true rfl) en5 (s_X10_noSlot e3) ?_
  refine a_if_eq 10 dX10_drop_4 (by decide) (fun c6 => ?_) (fun c6 => ?_)
  · replace h := ite_t c6 h
    refine a_aload_n dX10_drop_10 rfl rfl ?_
    obtain ⟨⟨ga7, gs8⟩, h⟩ := gd_t h
    obtain ⟨r9, e10, h⟩ := bnd_t h
    refine a_get (v := .ref r9) dX10_drop_11 fl_10_38 ga7 gs8 (gvR e10 rfl) ?_
    refine a_iload_n dX10_drop_14 rfl rfl ?_
    obtain ⟨⟨ga11, gn12, gs13, gi14⟩, h⟩ := gd_t h
    obtain ⟨r15, e16, h⟩ := bnd_t h
    refine a_aaload dX10_drop_15 ga11 gs13 gi14 e16 ?_
    obtain ⟨⟨ga17, gs18⟩, h⟩ := gd_t h
    refine a_getN (v := .int (M2.2.2.1 r15 2)) dX10_drop_16 fn_10_171 ga17 gs18 rfl ?_
    refine a_istore_n dX10_drop_19 rfl (Nat.le_of_ble_eq_true rfl) (lv2 := [(2, .int (M2.2.2.1 r15 2)), (0, .ref a0), (1, .int x1)]) rfl ?_
    refine a_aload_n dX10_drop_20 rfl rfl ?_
    refine a_get (v := .ref r9) dX10_drop_21 fl_10_38 ga7 gs8 (gvR e10 rfl) ?_
    refine a_iload_n dX10_drop_24 rfl rfl ?_
    obtain ⟨r19, e20, h⟩ := bnd_t h
    refine a_aaload dX10_drop_25 ga11 gs13 gi14 e20 ?_
    obtain ⟨⟨ga21, gs22⟩, h⟩ := gd_t h
    obtain ⟨_, M23, e24, h⟩ := bnd2_t h
    obtain ⟨n25, en26, e24⟩ := cal_t e24
    refine e_callV (As := []) (st := []) (a := r19) (ci := 9) false dX10_drop_26 mw_X9_clear (Or.inl ⟨rfl, ml_X10_135⟩) im_X9_clear se_X9_clear (by decide) ga21 gs22 rfl (Nat.le_of_ble_eq_true rfl) en26 (s_X9_clear e24) ?_
    refine a_iload_n dX10_drop_29 rfl rfl ?_
    exact a_iret dX10_drop_30 rfl (hR _ _ h)
  · replace h := ite_f c6 h
    refine a_bipush (v := -2) dX10_drop_7 (by decide) ?_
    exact a_iret dX10_drop_9 rfl (hR _ _ h)
noncomputable def b_X10_drop (n : Nat) (a0 : Nat) (x1 : Int32) (M : Mem) : Option (Int32 × Mem) := T_X10_drop_0 (fun v M => some (v, M)) none n a0 x1 M
set_option maxHeartbeats 4000000 in
set_option maxRecDepth 100000 in
theorem sb_X10_drop {X : Nat × (Nat → Int32)} {al : Bool} {n : Nat} {a0 : Nat} {x1 : Int32} {M : Mem} {v : Int32} {M1 : Mem} (h : b_X10_drop n a0 x1 M = some (v, M1)) : AE yX10_drop cX10_drop 3 (some .int) al n X [.ref a0, .int x1] M (some (.int v)) M1 := by
  refine AM.of false (by decide +kernel) (by intro h; cases h) (Nat.le_of_ble_eq_true rfl) ?_
  have h2 : T_X10_drop_0 (fun v2 M2 => some (v2, M2) = some (v, M1)) (none = some (v, M1)) n a0 x1 M := (n_X10_drop_0 (fun o => o = some (v, M1)) (fun v M => some (v, M)) none n a0 x1 M).mp h
  have h3 : ((none : Option (Int32 × Mem)) = some (v, M1)) = False := eq_false (by intro q; cases q)
  rw [h3] at h2
  exact w_X10_drop_0 (fun v2 M2 h => by cases h; exact ⟨rfl, rfl⟩) h2

noncomputable abbrev f_X10_drop := b_X10_drop
theorem s_X10_drop {X : Nat × (Nat → Int32)} {al : Bool} {n : Nat} {a0 : Nat} {x1 : Int32} {M : Mem} {v : Int32} {M1 : Mem} (h : f_X10_drop n a0 x1 M = some (v, M1)) : AE yX10_drop cX10_drop 3 (some .int) al n X [.ref a0, .int x1] M (some (.int v)) M1 := sb_X10_drop h
set_option maxHeartbeats 4000000 in
set_option maxRecDepth 100000 in
noncomputable def T_X11_drop_0.{u} {α : Sort u} (R : Int32 → Mem → α) (N : α) (n : Nat) (a0 : Nat) (x1 : Int32) (M : Mem) : α := gd (fO M a0 11) N (bnd2 (cal n (fun n => f_X11_isSlot n x1 (wI M a0 0 0))) N (fun v3 M4 => if v3 = 0 then R (-2) M4 else gd (fO M4 a0 11) N (bnd (M4.2.2.2.2 a0 19) N (fun r11 => gd (fA M4 r11 1 x1) N (R (M4.2.2.1 r11 (x1.toNatClampNeg)) (wI M4 r11 (x1.toNatClampNeg) 0))))))
set_option maxHeartbeats 4000000 in
set_option maxRecDepth 100000 in
theorem n_X11_drop_0.{u, v} {α : Sort u} {β : Sort v} (h : α → β) (R : Int32 → Mem → α) (N : α) (n : Nat) (a0 : Nat) (x1 : Int32) (M : Mem) : h (T_X11_drop_0 R N n a0 x1 M) = T_X11_drop_0 (fun v M => h (R v M)) (h N) n a0 x1 M := by
  simp only [T_X11_drop_0, nat_ite h, nat_gd h, nat_bnd h, nat_bnd2 h]
set_option maxHeartbeats 4000000 in
set_option maxRecDepth 100000 in
theorem w_X11_drop_0 {X : Nat × (Nat → Int32)} {al : Bool} {n : Nat} {Q : Option Value → Mem → Prop} {R : Int32 → Mem → Prop} (hR : ∀ v M, R v M → Q (some (.int v)) M) {a0 : Nat} {x1 : Int32} {M : Mem} (h : T_X11_drop_0 R False n a0 x1 M) : AW X (RX11, cX11_drop, 3, (some .int), false, al, n) 0 0 0 [(0, .ref a0), (1, .int x1)] [] M Q := by
  unfold T_X11_drop_0 at h
  refine a_aload_n dX11_drop_0 rfl rfl ?_
  refine a_iconst (v := 0) dX11_drop_1 (by decide) ?_
  obtain ⟨⟨ga1, gs2⟩, h⟩ := gd_t h
  refine a_putI dX11_drop_2 (Or.inl ⟨fl_11_1, Or.inl rfl⟩) rfl ga1 gs2 rfl rfl ?_
  refine a_iload_n dX11_drop_5 rfl rfl ?_
  obtain ⟨v3, M4, e5, h⟩ := bnd2_t h
  obtain ⟨n6, en7, e5⟩ := cal_t e5
  refine e_callS (As := [.int x1]) (st := []) false dX11_drop_6 mw_X11_isSlot (Or.inl ⟨rfl, ml_X11_271⟩) sm_X11_isSlot rfl (Nat.le_of_ble_eq_true rfl) en7 (s_X11_isSlot e5) ?_
  refine a_if_ne 15 dX11_drop_9 (by decide) (fun c8 => ?_) (fun c8 => ?_)
  · replace h := ite_f c8 h
    refine a_aload_n dX11_drop_15 rfl rfl ?_
    obtain ⟨⟨ga9, gs10⟩, h⟩ := gd_t h
    obtain ⟨r11, e12, h⟩ := bnd_t h
    refine a_get (v := .ref r11) dX11_drop_16 fl_11_56 ga9 gs10 (gvR e12 rfl) ?_
    refine a_iload_n dX11_drop_19 rfl rfl ?_
    obtain ⟨⟨ga13, gn14, gs15, gi16⟩, h⟩ := gd_t h
    refine a_iaload dX11_drop_20 ga13 gs15 gi16 ?_
    refine a_istore_n dX11_drop_21 rfl (Nat.le_of_ble_eq_true rfl) (lv2 := [(2, .int (M4.2.2.1 r11 (x1.toNatClampNeg))), (0, .ref a0), (1, .int x1)]) rfl ?_
    refine a_aload_n dX11_drop_22 rfl rfl ?_
    refine a_get (v := .ref r11) dX11_drop_23 fl_11_56 ga9 gs10 (gvR e12 rfl) ?_
    refine a_iload_n dX11_drop_26 rfl rfl ?_
    refine a_iconst (v := 0) dX11_drop_27 (by decide) ?_
    refine a_iastore dX11_drop_28 ga13 gs15 gi16 ?_
    refine a_iload_n dX11_drop_29 rfl rfl ?_
    exact a_iret dX11_drop_30 rfl (hR _ _ h)
  · replace h := ite_t c8 h
    refine a_bipush (v := -2) dX11_drop_12 (by decide) ?_
    exact a_iret dX11_drop_14 rfl (hR _ _ h)
noncomputable def b_X11_drop (n : Nat) (a0 : Nat) (x1 : Int32) (M : Mem) : Option (Int32 × Mem) := T_X11_drop_0 (fun v M => some (v, M)) none n a0 x1 M
set_option maxHeartbeats 4000000 in
set_option maxRecDepth 100000 in
theorem sb_X11_drop {X : Nat × (Nat → Int32)} {al : Bool} {n : Nat} {a0 : Nat} {x1 : Int32} {M : Mem} {v : Int32} {M1 : Mem} (h : b_X11_drop n a0 x1 M = some (v, M1)) : AE yX11_drop cX11_drop 3 (some .int) al n X [.ref a0, .int x1] M (some (.int v)) M1 := by
  refine AM.of false (by decide +kernel) (by intro h; cases h) (Nat.le_of_ble_eq_true rfl) ?_
  have h2 : T_X11_drop_0 (fun v2 M2 => some (v2, M2) = some (v, M1)) (none = some (v, M1)) n a0 x1 M := (n_X11_drop_0 (fun o => o = some (v, M1)) (fun v M => some (v, M)) none n a0 x1 M).mp h
  have h3 : ((none : Option (Int32 × Mem)) = some (v, M1)) = False := eq_false (by intro q; cases q)
  rw [h3] at h2
  exact w_X11_drop_0 (fun v2 M2 h => by cases h; exact ⟨rfl, rfl⟩) h2

noncomputable abbrev f_X11_drop := b_X11_drop
theorem s_X11_drop {X : Nat × (Nat → Int32)} {al : Bool} {n : Nat} {a0 : Nat} {x1 : Int32} {M : Mem} {v : Int32} {M1 : Mem} (h : f_X11_drop n a0 x1 M = some (v, M1)) : AE yX11_drop cX11_drop 3 (some .int) al n X [.ref a0, .int x1] M (some (.int v)) M1 := sb_X11_drop h
def ix_X10_fullSlots (c : Nat) : List Nat := if c = 0 then [0] else if c = 4 then [0, 1, 2] else []
def PW_X10_fullSlots (X : Nat × (Nat → Int32)) (al : Bool) (n : Nat) (Q : Option Value → Mem → Prop) (c : Nat) (l : List Value) (M : Mem) : Prop := AW X (RX10, cX10_fullSlots, 3, (some .int), false, al, n) 0 0 c (List.zip (ix_X10_fullSlots c) l) (l.drop (ix_X10_fullSlots c).length) M Q
set_option maxHeartbeats 4000000 in
set_option maxRecDepth 100000 in
noncomputable def T_X10_fullSlots_0.{u} {α : Sort u} (J : Nat → List Value → Mem → α) (R : Int32 → Mem → α) (N : α) (n : Nat) (a0 : Nat) (M : Mem) : α := J 4 [.ref a0, .int 0, .int 0] M
set_option maxHeartbeats 4000000 in
set_option maxRecDepth 100000 in
theorem n_X10_fullSlots_0.{u, v} {α : Sort u} {β : Sort v} (h : α → β) (J : Nat → List Value → Mem → α) (R : Int32 → Mem → α) (N : α) (n : Nat) (a0 : Nat) (M : Mem) : h (T_X10_fullSlots_0 J R N n a0 M) = T_X10_fullSlots_0 (fun c l M => h (J c l M)) (fun v M => h (R v M)) (h N) n a0 M := by
  simp only [T_X10_fullSlots_0, nat_ite h, nat_gd h, nat_bnd h, nat_bnd2 h]
set_option maxHeartbeats 4000000 in
set_option maxRecDepth 100000 in
theorem w_X10_fullSlots_0 {X : Nat × (Nat → Int32)} {al : Bool} {n : Nat} {Q : Option Value → Mem → Prop} {J : Nat → List Value → Mem → Prop} (hJ : ∀ c l M, J c l M → PW_X10_fullSlots X al n Q c l M) {R : Int32 → Mem → Prop} (hR : ∀ v M, R v M → Q (some (.int v)) M) {a0 : Nat} {M : Mem} (h : T_X10_fullSlots_0 J R False n a0 M) : AW X (RX10, cX10_fullSlots, 3, (some .int), false, al, n) 0 0 0 [(0, .ref a0)] [] M Q := by
  unfold T_X10_fullSlots_0 at h
  refine a_iconst (v := 0) dX10_fullSlots_0 (by decide) ?_
  refine a_istore_n dX10_fullSlots_1 rfl (Nat.le_of_ble_eq_true rfl) (lv2 := [(1, .int 0), (0, .ref a0)]) rfl ?_
  refine a_iconst (v := 0) dX10_fullSlots_2 (by decide) ?_
  refine a_istore_n dX10_fullSlots_3 rfl (Nat.le_of_ble_eq_true rfl) (lv2 := [(2, .int 0), (1, .int 0), (0, .ref a0)]) rfl ?_
  exact a_lv (lv2 := [(0, .ref a0), (1, .int 0), (2, .int 0)]) (fa_cons rfl (fa_cons rfl (fa_cons rfl fa_nil))) (hJ _ _ _ h)
set_option maxHeartbeats 4000000 in
set_option maxRecDepth 100000 in
noncomputable def T_X10_fullSlots_4.{u} {α : Sort u} (J : Nat → List Value → Mem → α) (R : Int32 → Mem → α) (N : α) (n : Nat) (a0 : Nat) (x1 : Int32) (x2 : Int32) (M : Mem) : α := if 4 ≤ x2 then R x1 M else gd (fO M a0 10) N (bnd (M.2.2.2.2 a0 5) N (fun r4 => gd (fA M r4 4 x2) N (bnd (M.2.2.2.2 r4 (x2.toNatClampNeg)) N (fun r10 => gd (fO M r10 9) N (if (M.2.2.1 r10 2) ≤ 0 then J 4 [.ref a0, .int x1, .int (x2 + 1)] M else J 4 [.ref a0, .int (x1 ||| ((1 : Int32) <<< (x2 &&& 31))), .int (x2 + 1)] M)))))
set_option maxHeartbeats 4000000 in
set_option maxRecDepth 100000 in
theorem n_X10_fullSlots_4.{u, v} {α : Sort u} {β : Sort v} (h : α → β) (J : Nat → List Value → Mem → α) (R : Int32 → Mem → α) (N : α) (n : Nat) (a0 : Nat) (x1 : Int32) (x2 : Int32) (M : Mem) : h (T_X10_fullSlots_4 J R N n a0 x1 x2 M) = T_X10_fullSlots_4 (fun c l M => h (J c l M)) (fun v M => h (R v M)) (h N) n a0 x1 x2 M := by
  simp only [T_X10_fullSlots_4, nat_ite h, nat_gd h, nat_bnd h, nat_bnd2 h]
set_option maxHeartbeats 4000000 in
set_option maxRecDepth 100000 in
theorem w_X10_fullSlots_4 {X : Nat × (Nat → Int32)} {al : Bool} {n : Nat} {Q : Option Value → Mem → Prop} {J : Nat → List Value → Mem → Prop} (hJ : ∀ c l M, J c l M → PW_X10_fullSlots X al n Q c l M) {R : Int32 → Mem → Prop} (hR : ∀ v M, R v M → Q (some (.int v)) M) {a0 : Nat} {x1 : Int32} {x2 : Int32} {M : Mem} (h : T_X10_fullSlots_4 J R False n a0 x1 x2 M) : AW X (RX10, cX10_fullSlots, 3, (some .int), false, al, n) 0 0 4 [(0, .ref a0), (1, .int x1), (2, .int x2)] [] M Q := by
  unfold T_X10_fullSlots_4 at h
  refine a_iload_n dX10_fullSlots_4 rfl rfl ?_
  refine a_iconst (v := 4) dX10_fullSlots_5 (by decide) ?_
  refine a_icmp_ge 33 dX10_fullSlots_6 (by decide) (fun c1 => ?_) (fun c1 => ?_)
  · replace h := ite_t c1 h
    refine a_iload_n dX10_fullSlots_33 rfl rfl ?_
    exact a_iret dX10_fullSlots_34 rfl (hR _ _ h)
  · replace h := ite_f c1 h
    refine a_aload_n dX10_fullSlots_9 rfl rfl ?_
    obtain ⟨⟨ga2, gs3⟩, h⟩ := gd_t h
    obtain ⟨r4, e5, h⟩ := bnd_t h
    refine a_get (v := .ref r4) dX10_fullSlots_10 fl_10_38 ga2 gs3 (gvR e5 rfl) ?_
    refine a_iload_n dX10_fullSlots_13 rfl rfl ?_
    obtain ⟨⟨ga6, gn7, gs8, gi9⟩, h⟩ := gd_t h
    obtain ⟨r10, e11, h⟩ := bnd_t h
    refine a_aaload dX10_fullSlots_14 ga6 gs8 gi9 e11 ?_
    obtain ⟨⟨ga12, gs13⟩, h⟩ := gd_t h
    refine a_getN (v := .int (M.2.2.1 r10 2)) dX10_fullSlots_15 fn_10_171 ga12 gs13 rfl ?_
    refine a_if_le 27 dX10_fullSlots_18 (by decide) (fun c14 => ?_) (fun c14 => ?_)
    · replace h := ite_t c14 h
      refine a_iinc (v := (x2 + 1)) dX10_fullSlots_27 rfl (by first | rfl | decide) (Nat.le_of_ble_eq_true rfl) (lv2 := [(2, .int (x2 + 1)), (0, .ref a0), (1, .int x1)]) rfl ?_
      refine a_goto 4 dX10_fullSlots_30 (by decide) ?_
      exact a_lv (lv2 := [(0, .ref a0), (1, .int x1), (2, .int (x2 + 1))]) (fa_cons rfl (fa_cons rfl (fa_cons rfl fa_nil))) (hJ _ _ _ h)
    · replace h := ite_f c14 h
      refine a_iload_n dX10_fullSlots_21 rfl rfl ?_
      refine a_iconst (v := 1) dX10_fullSlots_22 (by decide) ?_
      refine a_iload_n dX10_fullSlots_23 rfl rfl ?_
      refine a_ishl dX10_fullSlots_24 ?_
      refine a_ior dX10_fullSlots_25 ?_
      refine a_istore_n dX10_fullSlots_26 rfl (Nat.le_of_ble_eq_true rfl) (lv2 := [(1, .int (x1 ||| ((1 : Int32) <<< (x2 &&& 31)))), (0, .ref a0), (2, .int x2)]) rfl ?_
      refine a_iinc (v := (x2 + 1)) dX10_fullSlots_27 rfl (by first | rfl | decide) (Nat.le_of_ble_eq_true rfl) (lv2 := [(2, .int (x2 + 1)), (1, .int (x1 ||| ((1 : Int32) <<< (x2 &&& 31)))), (0, .ref a0)]) rfl ?_
      refine a_goto 4 dX10_fullSlots_30 (by decide) ?_
      exact a_lv (lv2 := [(0, .ref a0), (1, .int (x1 ||| ((1 : Int32) <<< (x2 &&& 31)))), (2, .int (x2 + 1))]) (fa_cons rfl (fa_cons rfl (fa_cons rfl fa_nil))) (hJ _ _ _ h)
set_option maxHeartbeats 4000000 in
set_option maxRecDepth 100000 in
noncomputable def st_X10_fullSlots (n : Nat) (s : Sg) : Option (Sg ⊕ (Int32 × Mem)) := if s.1 = 0 then vR s.2.1 none (fun a0 t => vE t none (T_X10_fullSlots_0 (fun c l M => some (.inl (c, l, M))) (fun v M => some (.inr (v, M))) none n a0 s.2.2)) else if s.1 = 4 then vR s.2.1 none (fun a0 t => vI t none (fun x1 t => vI t none (fun x2 t => vE t none (T_X10_fullSlots_4 (fun c l M => some (.inl (c, l, M))) (fun v M => some (.inr (v, M))) none n a0 x1 x2 s.2.2)))) else none
noncomputable abbrev g_X10_fullSlots_0 (n : Nat) (a0 : Nat) (M : Mem) : Option (Int32 × Mem) := lp (st_X10_fullSlots n) (0, [.ref a0], M)
set_option maxHeartbeats 4000000 in
set_option maxRecDepth 100000 in
theorem ge_X10_fullSlots_0 (n : Nat) (a0 : Nat) (M : Mem) : g_X10_fullSlots_0 n a0 M = T_X10_fullSlots_0 (fun c l M => lp (st_X10_fullSlots n) (c, l, M)) (fun v M => some (v, M)) none n a0 M := (lp_eq _ _).trans (n_X10_fullSlots_0 (lpK (st_X10_fullSlots n)) (fun c l M => some (.inl (c, l, M))) (fun v M => some (.inr (v, M))) none n a0 M)
noncomputable abbrev g_X10_fullSlots_4 (n : Nat) (a0 : Nat) (x1 : Int32) (x2 : Int32) (M : Mem) : Option (Int32 × Mem) := lp (st_X10_fullSlots n) (4, [.ref a0, .int x1, .int x2], M)
set_option maxHeartbeats 4000000 in
set_option maxRecDepth 100000 in
theorem ge_X10_fullSlots_4 (n : Nat) (a0 : Nat) (x1 : Int32) (x2 : Int32) (M : Mem) : g_X10_fullSlots_4 n a0 x1 x2 M = T_X10_fullSlots_4 (fun c l M => lp (st_X10_fullSlots n) (c, l, M)) (fun v M => some (v, M)) none n a0 x1 x2 M := (lp_eq _ _).trans (n_X10_fullSlots_4 (lpK (st_X10_fullSlots n)) (fun c l M => some (.inl (c, l, M))) (fun v M => some (.inr (v, M))) none n a0 x1 x2 M)
noncomputable def b_X10_fullSlots (n : Nat) (a0 : Nat) (M : Mem) : Option (Int32 × Mem) := g_X10_fullSlots_0 n a0 M
set_option maxHeartbeats 4000000 in
set_option maxRecDepth 100000 in
theorem sb_X10_fullSlots {X : Nat × (Nat → Int32)} {al : Bool} {n : Nat} {a0 : Nat} {M : Mem} {v : Int32} {M1 : Mem} (h : b_X10_fullSlots n a0 M = some (v, M1)) : AE yX10_fullSlots cX10_fullSlots 3 (some .int) al n X [.ref a0] M (some (.int v)) M1 := by
  refine AM.of false (by decide +kernel) (by intro h; cases h) (Nat.le_of_ble_eq_true rfl) ?_
  refine lp_snd (P := fun s r => PW_X10_fullSlots X al n (fun v M2 => v = (some (.int r.1)) ∧ M2 = r.2) s.1 s.2.1 s.2.2) ?_ h
  clear h
  rintro ⟨c, l, M⟩ r h
  unfold st_X10_fullSlots at h
  rcases ite_p h with ⟨e, h⟩ | ⟨e, h⟩
  · replace e : c = 0 := e
    subst e
    obtain ⟨a0, tt0, e, h⟩ := vR_p id h
    replace e : l = _ := e
    subst e
    obtain ⟨e, h⟩ := vE_p id h
    replace e : tt0 = [] := e
    subst e
    exact w_X10_fullSlots_0 (J := fun c l M => PW_X10_fullSlots X al n (fun v M2 => v = (some (.int r.1)) ∧ M2 = r.2) c l M) (R := fun v M => (v, M) = r) (fun _ _ _ h => h) (fun v M h => by cases h; exact ⟨rfl, rfl⟩) ((n_X10_fullSlots_0 (lpP (fun (s : Sg) (r : Int32 × Mem) => PW_X10_fullSlots X al n (fun v M2 => v = (some (.int r.1)) ∧ M2 = r.2) s.1 s.2.1 s.2.2) r) (fun c l M => some (.inl (c, l, M))) (fun v M => some (.inr (v, M))) none n a0 M).mp h)
  rcases ite_p h with ⟨e, h⟩ | ⟨e, h⟩
  · replace e : c = 4 := e
    subst e
    obtain ⟨a0, tt0, e, h⟩ := vR_p id h
    replace e : l = _ := e
    subst e
    obtain ⟨x1, tt1, e, h⟩ := vI_p id h
    replace e : tt0 = _ := e
    subst e
    obtain ⟨x2, tt2, e, h⟩ := vI_p id h
    replace e : tt1 = _ := e
    subst e
    obtain ⟨e, h⟩ := vE_p id h
    replace e : tt2 = [] := e
    subst e
    exact w_X10_fullSlots_4 (J := fun c l M => PW_X10_fullSlots X al n (fun v M2 => v = (some (.int r.1)) ∧ M2 = r.2) c l M) (R := fun v M => (v, M) = r) (fun _ _ _ h => h) (fun v M h => by cases h; exact ⟨rfl, rfl⟩) ((n_X10_fullSlots_4 (lpP (fun (s : Sg) (r : Int32 × Mem) => PW_X10_fullSlots X al n (fun v M2 => v = (some (.int r.1)) ∧ M2 = r.2) s.1 s.2.1 s.2.2) r) (fun c l M => some (.inl (c, l, M))) (fun v M => some (.inr (v, M))) none n a0 x1 x2 M).mp h)
  · exact h.elim

noncomputable abbrev f_X10_fullSlots := b_X10_fullSlots
theorem s_X10_fullSlots {X : Nat × (Nat → Int32)} {al : Bool} {n : Nat} {a0 : Nat} {M : Mem} {v : Int32} {M1 : Mem} (h : f_X10_fullSlots n a0 M = some (v, M1)) : AE yX10_fullSlots cX10_fullSlots 3 (some .int) al n X [.ref a0] M (some (.int v)) M1 := sb_X10_fullSlots h
set_option maxHeartbeats 4000000 in
set_option maxRecDepth 100000 in
noncomputable def T_X10_count_0.{u} {α : Sort u} (R : Int32 → Mem → α) (N : α) (n : Nat) (a0 : Nat) (x1 : Int32) (M : Mem) : α := if x1 = 0 then gd (fO M a0 10) N (bnd (M.2.2.2.2 a0 3) N (fun r4 => gd (fO M r4 2) N (R (M.2.2.1 r4 3) M))) else if x1 = 1 then gd (fO M a0 10) N (bnd2 (cal n (fun n => f_X10_fullSlots n a0 M)) N (fun v11 M12 => R v11 M12)) else if x1 = 2 then gd (fO M a0 10) N (R (M.2.2.1 a0 1) M) else if x1 = 3 then gd (fO M a0 10) N (R (M.2.2.1 a0 15) M) else R (-1) M
set_option maxHeartbeats 4000000 in
set_option maxRecDepth 100000 in
theorem n_X10_count_0.{u, v} {α : Sort u} {β : Sort v} (h : α → β) (R : Int32 → Mem → α) (N : α) (n : Nat) (a0 : Nat) (x1 : Int32) (M : Mem) : h (T_X10_count_0 R N n a0 x1 M) = T_X10_count_0 (fun v M => h (R v M)) (h N) n a0 x1 M := by
  simp only [T_X10_count_0, nat_ite h, nat_gd h, nat_bnd h, nat_bnd2 h]
set_option maxHeartbeats 4000000 in
set_option maxRecDepth 100000 in
theorem w_X10_count_0 {X : Nat × (Nat → Int32)} {al : Bool} {n : Nat} {Q : Option Value → Mem → Prop} {R : Int32 → Mem → Prop} (hR : ∀ v M, R v M → Q (some (.int v)) M) {a0 : Nat} {x1 : Int32} {M : Mem} (h : T_X10_count_0 R False n a0 x1 M) : AW X (RX10, cX10_count, 2, (some .int), false, al, n) 0 0 0 [(0, .ref a0), (1, .int x1)] [] M Q := by
  unfold T_X10_count_0 at h
  refine a_iload_n dX10_count_0 rfl rfl ?_
  by_cases c1 : x1 = 0
  · replace h := ite_t c1 h
    refine a_tableIn (off := 31) 32 dX10_count_1 (by rw [c1]; decide) (by rw [c1]; decide) (by rw [c1]; rfl) (by decide) ?_
    refine a_aload_n dX10_count_32 rfl rfl ?_
    obtain ⟨⟨ga2, gs3⟩, h⟩ := gd_t h
    obtain ⟨r4, e5, h⟩ := bnd_t h
    refine a_get (v := .ref r4) dX10_count_33 fl_10_23 ga2 gs3 (gvR e5 rfl) ?_
    obtain ⟨⟨ga6, gs7⟩, h⟩ := gd_t h
    refine a_getN (v := .int (M.2.2.1 r4 3)) dX10_count_36 fn_10_138 ga6 gs7 rfl ?_
    exact a_iret dX10_count_39 rfl (hR _ _ h)
  replace h := ite_f c1 h
  by_cases c8 : x1 = 1
  · replace h := ite_t c8 h
    refine a_tableIn (off := 39) 40 dX10_count_1 (by rw [c8]; decide) (by rw [c8]; decide) (by rw [c8]; rfl) (by decide) ?_
    refine a_aload_n dX10_count_40 rfl rfl ?_
    obtain ⟨⟨ga9, gs10⟩, h⟩ := gd_t h
    obtain ⟨v11, M12, e13, h⟩ := bnd2_t h
    obtain ⟨n14, en15, e13⟩ := cal_t e13
    refine e_callV (As := []) (st := []) (a := a0) (ci := 10) false dX10_count_41 mw_X10_fullSlots (Or.inl ⟨rfl, ml_X10_177⟩) im_X10_fullSlots se_X10_fullSlots (by decide) ga9 gs10 rfl (Nat.le_of_ble_eq_true rfl) en15 (s_X10_fullSlots e13) ?_
    exact a_iret dX10_count_44 rfl (hR _ _ h)
  replace h := ite_f c8 h
  by_cases c16 : x1 = 2
  · replace h := ite_t c16 h
    refine a_tableIn (off := 44) 45 dX10_count_1 (by rw [c16]; decide) (by rw [c16]; decide) (by rw [c16]; rfl) (by decide) ?_
    refine a_aload_n dX10_count_45 rfl rfl ?_
    obtain ⟨⟨ga17, gs18⟩, h⟩ := gd_t h
    refine a_get (v := .int (M.2.2.1 a0 1)) dX10_count_46 fl_10_112 ga17 gs18 rfl ?_
    exact a_iret dX10_count_49 rfl (hR _ _ h)
  replace h := ite_f c16 h
  by_cases c19 : x1 = 3
  · replace h := ite_t c19 h
    refine a_tableIn (off := 49) 50 dX10_count_1 (by rw [c19]; decide) (by rw [c19]; decide) (by rw [c19]; rfl) (by decide) ?_
    refine a_aload_n dX10_count_50 rfl rfl ?_
    obtain ⟨⟨ga20, gs21⟩, h⟩ := gd_t h
    refine a_get (v := .int (M.2.2.1 a0 15)) dX10_count_51 fl_10_180 ga20 gs21 rfl ?_
    exact a_iret dX10_count_54 rfl (hR _ _ h)
  replace h := ite_f c19 h
  refine a_tableOut 55 dX10_count_1 (by have q0 := ne_toInt (z := 0) c1 rfl; have q1 := ne_toInt (z := 1) c8 rfl; have q2 := ne_toInt (z := 2) c16 rfl; have q3 := ne_toInt (z := 3) c19 rfl; omega) (by decide) ?_
  refine a_iconst (v := -1) dX10_count_55 (by decide) ?_
  exact a_iret dX10_count_56 rfl (hR _ _ h)
noncomputable def b_X10_count (n : Nat) (a0 : Nat) (x1 : Int32) (M : Mem) : Option (Int32 × Mem) := T_X10_count_0 (fun v M => some (v, M)) none n a0 x1 M
set_option maxHeartbeats 4000000 in
set_option maxRecDepth 100000 in
theorem sb_X10_count {X : Nat × (Nat → Int32)} {al : Bool} {n : Nat} {a0 : Nat} {x1 : Int32} {M : Mem} {v : Int32} {M1 : Mem} (h : b_X10_count n a0 x1 M = some (v, M1)) : AE yX10_count cX10_count 2 (some .int) al n X [.ref a0, .int x1] M (some (.int v)) M1 := by
  refine AM.of false (by decide +kernel) (by intro h; cases h) (Nat.le_of_ble_eq_true rfl) ?_
  have h2 : T_X10_count_0 (fun v2 M2 => some (v2, M2) = some (v, M1)) (none = some (v, M1)) n a0 x1 M := (n_X10_count_0 (fun o => o = some (v, M1)) (fun v M => some (v, M)) none n a0 x1 M).mp h
  have h3 : ((none : Option (Int32 × Mem)) = some (v, M1)) = False := eq_false (by intro q; cases q)
  rw [h3] at h2
  exact w_X10_count_0 (fun v2 M2 h => by cases h; exact ⟨rfl, rfl⟩) h2

noncomputable abbrev f_X10_count := b_X10_count
theorem s_X10_count {X : Nat × (Nat → Int32)} {al : Bool} {n : Nat} {a0 : Nat} {x1 : Int32} {M : Mem} {v : Int32} {M1 : Mem} (h : f_X10_count n a0 x1 M = some (v, M1)) : AE yX10_count cX10_count 2 (some .int) al n X [.ref a0, .int x1] M (some (.int v)) M1 := sb_X10_count h
