/-! METHODS AS FUNCTIONS, written by wip/gen/shallow.py -/
def ix_X11_alike (c : Nat) : List Nat := if c = 0 then [0, 1, 2] else if c = 77 then [0] else []
def PW_X11_alike (X : Nat × (Nat → Int32)) (al : Bool) (n : Nat) (Q : Option Value → Mem → Prop) (c : Nat) (l : List Value) (M : Mem) : Prop := AW X (RX11, cX11_alike, 5, (some .int), false, al, n) 0 0 c (List.zip (ix_X11_alike c) l) (l.drop (ix_X11_alike c).length) M Q
set_option maxHeartbeats 4000000 in
set_option maxRecDepth 100000 in
noncomputable def T_X11_alike_0.{u} {α : Sort u} (J : Nat → List Value → Mem → α) (R : Int32 → Mem → α) (N : α) (n : Nat) (a0 : Nat) (x1 : Int32) (x2 : Int32) (M : Mem) : α := gd (fO M a0 11) N (bnd2 (cal n (fun n => f_X11_isSlot n x1 (wI M a0 0 0))) N (fun v3 M4 => if v3 = 0 then R (-2) M4 else bnd2 (cal n (fun n => f_X11_isSlot n x2 M4)) N (fun v9 M10 => if v9 = 0 then R (-2) M10 else gd (fO M10 a0 11) N (bnd2 (cal n (fun n => f_X11_isEmpty n a0 x1 M10)) N (fun v17 M18 => if v17 = 0 then gd (fO M18 a0 11) N (bnd2 (cal n (fun n => f_X11_isEmpty n a0 x2 M18)) N (fun v25 M26 => if v25 = 0 then gd (fO M26 a0 11) N (bnd2 (cal n (fun n => f_X11_takes n a0 x1 (wI M26 a0 8 1))) N (fun _ M33 => gd (fO M33 a0 11) N (bnd2 (cal n (fun n => f_X11_normalize n a0 M33)) N (fun v39 M40 => gd (fO M40 a0 11) N (bnd2 (cal n (fun n => f_X11_keepsBeside n a0 M40)) N (fun _ M46 => gd (fO M46 a0 11) N (bnd2 (cal n (fun n => f_X11_takes n a0 x2 M46)) N (fun _ M52 => if 0 ≤ v39 then gd (fO M52 a0 11) N (bnd2 (cal n (fun n => f_X11_normalize n a0 M52)) N (fun v59 M60 => J 77 [.ref a0, .int v59] M60)) else J 77 [.ref a0, .int v39] M52)))))))) else R (-5) M26)) else R (-5) M18)))))
set_option maxHeartbeats 4000000 in
set_option maxRecDepth 100000 in
theorem n_X11_alike_0.{u, v} {α : Sort u} {β : Sort v} (h : α → β) (J : Nat → List Value → Mem → α) (R : Int32 → Mem → α) (N : α) (n : Nat) (a0 : Nat) (x1 : Int32) (x2 : Int32) (M : Mem) : h (T_X11_alike_0 J R N n a0 x1 x2 M) = T_X11_alike_0 (fun c l M => h (J c l M)) (fun v M => h (R v M)) (h N) n a0 x1 x2 M := by
  simp only [T_X11_alike_0, nat_ite h, nat_gd h, nat_bnd h, nat_bnd2 h]
set_option maxHeartbeats 4000000 in
set_option maxRecDepth 100000 in
theorem w_X11_alike_0 {X : Nat × (Nat → Int32)} {al : Bool} {n : Nat} {Q : Option Value → Mem → Prop} {J : Nat → List Value → Mem → Prop} (hJ : ∀ c l M, J c l M → PW_X11_alike X al n Q c l M) {R : Int32 → Mem → Prop} (hR : ∀ v M, R v M → Q (some (.int v)) M) {a0 : Nat} {x1 : Int32} {x2 : Int32} {M : Mem} (h : T_X11_alike_0 J R False n a0 x1 x2 M) : AW X (RX11, cX11_alike, 5, (some .int), false, al, n) 0 0 0 [(0, .ref a0), (1, .int x1), (2, .int x2)] [] M Q := by
  unfold T_X11_alike_0 at h
  refine a_aload_n dX11_alike_0 rfl rfl ?_
  refine a_iconst (v := 0) dX11_alike_1 (by decide) ?_
  obtain ⟨⟨ga1, gs2⟩, h⟩ := gd_t h
  refine a_putI dX11_alike_2 (Or.inl ⟨fl_11_1, Or.inl rfl⟩) rfl ga1 gs2 rfl rfl ?_
  refine a_iload_n dX11_alike_5 rfl rfl ?_
  obtain ⟨v3, M4, e5, h⟩ := bnd2_t h
  obtain ⟨n6, en7, e5⟩ := cal_t e5
  refine e_callS (As := [.int x1]) (st := []) false dX11_alike_6 mw_X11_isSlot (Or.inl ⟨rfl, ml_X11_271⟩) sm_X11_isSlot rfl (Nat.le_of_ble_eq_true rfl) en7 (s_X11_isSlot e5) ?_
  refine a_if_eq 19 dX11_alike_9 (by decide) (fun c8 => ?_) (fun c8 => ?_)
  · replace h := ite_t c8 h
    refine a_bipush (v := -2) dX11_alike_19 (by decide) ?_
    exact a_iret dX11_alike_21 rfl (hR _ _ h)
  · replace h := ite_f c8 h
    refine a_iload_n dX11_alike_12 rfl rfl ?_
    obtain ⟨v9, M10, e11, h⟩ := bnd2_t h
    obtain ⟨n12, en13, e11⟩ := cal_t e11
    refine e_callS (As := [.int x2]) (st := []) false dX11_alike_13 mw_X11_isSlot (Or.inl ⟨rfl, ml_X11_271⟩) sm_X11_isSlot rfl (Nat.le_of_ble_eq_true rfl) en13 (s_X11_isSlot e11) ?_
    refine a_if_ne 22 dX11_alike_16 (by decide) (fun c14 => ?_) (fun c14 => ?_)
    · replace h := ite_f c14 h
      refine a_aload_n dX11_alike_22 rfl rfl ?_
      refine a_iload_n dX11_alike_23 rfl rfl ?_
      obtain ⟨⟨ga15, gs16⟩, h⟩ := gd_t h
      obtain ⟨v17, M18, e19, h⟩ := bnd2_t h
      obtain ⟨n20, en21, e19⟩ := cal_t e19
      refine e_callV (As := [.int x1]) (st := []) (a := a0) (ci := 11) false dX11_alike_24 mw_X11_isEmpty (Or.inl ⟨rfl, ml_X11_343⟩) im_X11_isEmpty se_X11_isEmpty (by decide) ga15 gs16 rfl (Nat.le_of_ble_eq_true rfl) en21 (s_X11_isEmpty e19) ?_
      refine a_if_ne 38 dX11_alike_27 (by decide) (fun c22 => ?_) (fun c22 => ?_)
      · replace h := ite_f c22 h
        refine a_bipush (v := -5) dX11_alike_38 (by decide) ?_
        exact a_iret dX11_alike_40 rfl (hR _ _ h)
      · replace h := ite_t c22 h
        refine a_aload_n dX11_alike_30 rfl rfl ?_
        refine a_iload_n dX11_alike_31 rfl rfl ?_
        obtain ⟨⟨ga23, gs24⟩, h⟩ := gd_t h
        obtain ⟨v25, M26, e27, h⟩ := bnd2_t h
        obtain ⟨n28, en29, e27⟩ := cal_t e27
        refine e_callV (As := [.int x2]) (st := []) (a := a0) (ci := 11) false dX11_alike_32 mw_X11_isEmpty (Or.inl ⟨rfl, ml_X11_343⟩) im_X11_isEmpty se_X11_isEmpty (by decide) ga23 gs24 rfl (Nat.le_of_ble_eq_true rfl) en29 (s_X11_isEmpty e27) ?_
        refine a_if_eq 41 dX11_alike_35 (by decide) (fun c30 => ?_) (fun c30 => ?_)
        · replace h := ite_t c30 h
          refine a_aload_n dX11_alike_41 rfl rfl ?_
          refine a_iconst (v := 1) dX11_alike_42 (by decide) ?_
          obtain ⟨⟨ga31, gs32⟩, h⟩ := gd_t h
          refine a_putI dX11_alike_43 (Or.inl ⟨fl_11_140, Or.inl rfl⟩) rfl ga31 gs32 rfl rfl ?_
          refine a_aload_n dX11_alike_46 rfl rfl ?_
          refine a_iload_n dX11_alike_47 rfl rfl ?_
          obtain ⟨_, M33, e34, h⟩ := bnd2_t h
          obtain ⟨n35, en36, e34⟩ := cal_t e34
          refine e_callV (As := [.int x1]) (st := []) (a := a0) (ci := 11) false dX11_alike_48 mw_X11_takes (Or.inl ⟨rfl, ml_X11_346⟩) im_X11_takes se_X11_takes (by decide) ga31 gs32 rfl (Nat.le_of_ble_eq_true rfl) en36 (s_X11_takes e34) ?_
          refine a_aload_n dX11_alike_51 rfl rfl ?_
          obtain ⟨⟨ga37, gs38⟩, h⟩ := gd_t h
          obtain ⟨v39, M40, e41, h⟩ := bnd2_t h
          obtain ⟨n42, en43, e41⟩ := cal_t e41
          refine e_callV (As := []) (st := []) (a := a0) (ci := 11) false dX11_alike_52 mw_X11_normalize (Or.inl ⟨rfl, ml_X11_355⟩) im_X11_normalize se_X11_normalize (by decide) ga37 gs38 rfl (Nat.le_of_ble_eq_true rfl) en43 (s_X11_normalize e41) ?_
          refine a_istore_n dX11_alike_55 rfl (Nat.le_of_ble_eq_true rfl) (lv2 := [(3, .int v39), (0, .ref a0), (1, .int x1), (2, .int x2)]) rfl ?_
          refine a_aload_n dX11_alike_56 rfl rfl ?_
          obtain ⟨⟨ga44, gs45⟩, h⟩ := gd_t h
          obtain ⟨_, M46, e47, h⟩ := bnd2_t h
          obtain ⟨n48, en49, e47⟩ := cal_t e47
          refine e_callV (As := []) (st := []) (a := a0) (ci := 11) false dX11_alike_57 mw_X11_keepsBeside (Or.inl ⟨rfl, ml_X11_429⟩) im_X11_keepsBeside se_X11_keepsBeside (by decide) ga44 gs45 rfl (Nat.le_of_ble_eq_true rfl) en49 (s_X11_keepsBeside e47) ?_
          refine a_aload_n dX11_alike_60 rfl rfl ?_
          refine a_iload_n dX11_alike_61 rfl rfl ?_
          obtain ⟨⟨ga50, gs51⟩, h⟩ := gd_t h
          obtain ⟨_, M52, e53, h⟩ := bnd2_t h
          obtain ⟨n54, en55, e53⟩ := cal_t e53
          refine e_callV (As := [.int x2]) (st := []) (a := a0) (ci := 11) false dX11_alike_62 mw_X11_takes (Or.inl ⟨rfl, ml_X11_346⟩) im_X11_takes se_X11_takes (by decide) ga50 gs51 rfl (Nat.le_of_ble_eq_true rfl) en55 (s_X11_takes e53) ?_
          refine a_iload_n dX11_alike_65 rfl rfl ?_
          refine a_if_ge 73 dX11_alike_66 (by decide) (fun c56 => ?_) (fun c56 => ?_)
          · replace h := ite_t c56 h
            refine a_aload_n dX11_alike_73 rfl rfl ?_
            obtain ⟨⟨ga57, gs58⟩, h⟩ := gd_t h
            obtain ⟨v59, M60, e61, h⟩ := bnd2_t h
            obtain ⟨n62, en63, e61⟩ := cal_t e61
            refine e_callV (As := []) (st := []) (a := a0) (ci := 11) false dX11_alike_74 mw_X11_normalize (Or.inl ⟨rfl, ml_X11_355⟩) im_X11_normalize se_X11_normalize (by decide) ga57 gs58 rfl (Nat.le_of_ble_eq_true rfl) en63 (s_X11_normalize e61) ?_
            exact a_lv (lv2 := [(0, .ref a0)]) (fa_cons rfl fa_nil) (hJ _ _ _ h)
          · replace h := ite_f c56 h
            refine a_iload_n dX11_alike_69 rfl rfl ?_
            refine a_goto 77 dX11_alike_70 (by decide) ?_
            exact a_lv (lv2 := [(0, .ref a0)]) (fa_cons rfl fa_nil) (hJ _ _ _ h)
        · replace h := ite_f c30 h
          refine a_bipush (v := -5) dX11_alike_38 (by decide) ?_
          exact a_iret dX11_alike_40 rfl (hR _ _ h)
    · replace h := ite_t c14 h
      refine a_bipush (v := -2) dX11_alike_19 (by decide) ?_
      exact a_iret dX11_alike_21 rfl (hR _ _ h)
set_option maxHeartbeats 4000000 in
set_option maxRecDepth 100000 in
noncomputable def T_X11_alike_77.{u} {α : Sort u} (J : Nat → List Value → Mem → α) (R : Int32 → Mem → α) (N : α) (n : Nat) (a0 : Nat) (xs0 : Int32) (M : Mem) : α := gd (fO M a0 11) N (if 0 ≤ xs0 then bnd2 (cal n (fun n => f_X11_isThen n a0 (wI M a0 8 0))) N (fun v4 M5 => if v4 = 0 then R 0 M5 else R 1 M5) else R xs0 (wI M a0 8 0))
set_option maxHeartbeats 4000000 in
set_option maxRecDepth 100000 in
theorem n_X11_alike_77.{u, v} {α : Sort u} {β : Sort v} (h : α → β) (J : Nat → List Value → Mem → α) (R : Int32 → Mem → α) (N : α) (n : Nat) (a0 : Nat) (xs0 : Int32) (M : Mem) : h (T_X11_alike_77 J R N n a0 xs0 M) = T_X11_alike_77 (fun c l M => h (J c l M)) (fun v M => h (R v M)) (h N) n a0 xs0 M := by
  simp only [T_X11_alike_77, nat_ite h, nat_gd h, nat_bnd h, nat_bnd2 h]
set_option maxHeartbeats 4000000 in
set_option maxRecDepth 100000 in
theorem w_X11_alike_77 {X : Nat × (Nat → Int32)} {al : Bool} {n : Nat} {Q : Option Value → Mem → Prop} {J : Nat → List Value → Mem → Prop} (hJ : ∀ c l M, J c l M → PW_X11_alike X al n Q c l M) {R : Int32 → Mem → Prop} (hR : ∀ v M, R v M → Q (some (.int v)) M) {a0 : Nat} {xs0 : Int32} {M : Mem} (h : T_X11_alike_77 J R False n a0 xs0 M) : AW X (RX11, cX11_alike, 5, (some .int), false, al, n) 0 0 77 [(0, .ref a0)] [.int xs0] M Q := by
  unfold T_X11_alike_77 at h
  refine a_istore dX11_alike_77 (Nat.le_of_ble_eq_true rfl) (lv2 := [(4, .int xs0), (0, .ref a0)]) rfl ?_
  refine a_aload_n dX11_alike_79 rfl rfl ?_
  refine a_iconst (v := 0) dX11_alike_80 (by decide) ?_
  obtain ⟨⟨ga1, gs2⟩, h⟩ := gd_t h
  refine a_putI dX11_alike_81 (Or.inl ⟨fl_11_140, Or.inl rfl⟩) rfl ga1 gs2 rfl rfl ?_
  refine a_iload dX11_alike_84 rfl ?_
  refine a_if_ge 94 dX11_alike_86 (by decide) (fun c3 => ?_) (fun c3 => ?_)
  · replace h := ite_t c3 h
    refine a_aload_n dX11_alike_94 rfl rfl ?_
    obtain ⟨v4, M5, e6, h⟩ := bnd2_t h
    obtain ⟨n7, en8, e6⟩ := cal_t e6
    refine e_callV (As := []) (st := []) (a := a0) (ci := 11) false dX11_alike_95 mw_X11_isThen (Or.inl ⟨rfl, ml_X11_432⟩) im_X11_isThen se_X11_isThen (by decide) ga1 gs2 rfl (Nat.le_of_ble_eq_true rfl) en8 (s_X11_isThen e6) ?_
    refine a_if_eq 105 dX11_alike_98 (by decide) (fun c9 => ?_) (fun c9 => ?_)
    · replace h := ite_t c9 h
      refine a_iconst (v := 0) dX11_alike_105 (by decide) ?_
      exact a_iret dX11_alike_106 rfl (hR _ _ h)
    · replace h := ite_f c9 h
      refine a_iconst (v := 1) dX11_alike_101 (by decide) ?_
      refine a_goto 106 dX11_alike_102 (by decide) ?_
      exact a_iret dX11_alike_106 rfl (hR _ _ h)
  · replace h := ite_f c3 h
    refine a_iload dX11_alike_89 rfl ?_
    refine a_goto 106 dX11_alike_91 (by decide) ?_
    exact a_iret dX11_alike_106 rfl (hR _ _ h)
set_option maxHeartbeats 4000000 in
set_option maxRecDepth 100000 in
noncomputable def st_X11_alike (n : Nat) (s : Sg) : Option (Sg ⊕ (Int32 × Mem)) := if s.1 = 0 then vR s.2.1 none (fun a0 t => vI t none (fun x1 t => vI t none (fun x2 t => vE t none (T_X11_alike_0 (fun c l M => some (.inl (c, l, M))) (fun v M => some (.inr (v, M))) none n a0 x1 x2 s.2.2)))) else if s.1 = 77 then vR s.2.1 none (fun a0 t => vI t none (fun xs0 t => vE t none (T_X11_alike_77 (fun c l M => some (.inl (c, l, M))) (fun v M => some (.inr (v, M))) none n a0 xs0 s.2.2))) else none
noncomputable abbrev g_X11_alike_0 (n : Nat) (a0 : Nat) (x1 : Int32) (x2 : Int32) (M : Mem) : Option (Int32 × Mem) := lp (st_X11_alike n) (0, [.ref a0, .int x1, .int x2], M)
set_option maxHeartbeats 4000000 in
set_option maxRecDepth 100000 in
theorem ge_X11_alike_0 (n : Nat) (a0 : Nat) (x1 : Int32) (x2 : Int32) (M : Mem) : g_X11_alike_0 n a0 x1 x2 M = T_X11_alike_0 (fun c l M => lp (st_X11_alike n) (c, l, M)) (fun v M => some (v, M)) none n a0 x1 x2 M := (lp_eq _ _).trans (n_X11_alike_0 (lpK (st_X11_alike n)) (fun c l M => some (.inl (c, l, M))) (fun v M => some (.inr (v, M))) none n a0 x1 x2 M)
noncomputable abbrev g_X11_alike_77 (n : Nat) (a0 : Nat) (xs0 : Int32) (M : Mem) : Option (Int32 × Mem) := lp (st_X11_alike n) (77, [.ref a0, .int xs0], M)
set_option maxHeartbeats 4000000 in
set_option maxRecDepth 100000 in
theorem ge_X11_alike_77 (n : Nat) (a0 : Nat) (xs0 : Int32) (M : Mem) : g_X11_alike_77 n a0 xs0 M = T_X11_alike_77 (fun c l M => lp (st_X11_alike n) (c, l, M)) (fun v M => some (v, M)) none n a0 xs0 M := (lp_eq _ _).trans (n_X11_alike_77 (lpK (st_X11_alike n)) (fun c l M => some (.inl (c, l, M))) (fun v M => some (.inr (v, M))) none n a0 xs0 M)
noncomputable def b_X11_alike (n : Nat) (a0 : Nat) (x1 : Int32) (x2 : Int32) (M : Mem) : Option (Int32 × Mem) := g_X11_alike_0 n a0 x1 x2 M
set_option maxHeartbeats 4000000 in
set_option maxRecDepth 100000 in
theorem sb_X11_alike {X : Nat × (Nat → Int32)} {al : Bool} {n : Nat} {a0 : Nat} {x1 : Int32} {x2 : Int32} {M : Mem} {v : Int32} {M1 : Mem} (h : b_X11_alike n a0 x1 x2 M = some (v, M1)) : AE yX11_alike cX11_alike 5 (some .int) al n X [.ref a0, .int x1, .int x2] M (some (.int v)) M1 := by
  refine AM.of false (by decide +kernel) (by intro h; cases h) (Nat.le_of_ble_eq_true rfl) ?_
  refine lp_snd (P := fun s r => PW_X11_alike X al n (fun v M2 => v = (some (.int r.1)) ∧ M2 = r.2) s.1 s.2.1 s.2.2) ?_ h
  clear h
  rintro ⟨c, l, M⟩ r h
  unfold st_X11_alike at h
  rcases ite_p h with ⟨e, h⟩ | ⟨e, h⟩
  · replace e : c = 0 := e
    subst e
    obtain ⟨a0, tt0, e, h⟩ := vR_p id h
    replace e : l = _ := e
    subst e
    obtain ⟨x1, tt1, e, h⟩ := vI_p id h
    replace e : tt0 = _ := e
    subst e
    obtain ⟨x2, tt2, e, h⟩ := vI_p id h
    replace e : tt1 = _ := e
    subst e
    obtain ⟨e, h⟩ := vE_p id h
    replace e : tt2 = [] := e
    subst e
    exact w_X11_alike_0 (J := fun c l M => PW_X11_alike X al n (fun v M2 => v = (some (.int r.1)) ∧ M2 = r.2) c l M) (R := fun v M => (v, M) = r) (fun _ _ _ h => h) (fun v M h => by cases h; exact ⟨rfl, rfl⟩) ((n_X11_alike_0 (lpP (fun (s : Sg) (r : Int32 × Mem) => PW_X11_alike X al n (fun v M2 => v = (some (.int r.1)) ∧ M2 = r.2) s.1 s.2.1 s.2.2) r) (fun c l M => some (.inl (c, l, M))) (fun v M => some (.inr (v, M))) none n a0 x1 x2 M).mp h)
  rcases ite_p h with ⟨e, h⟩ | ⟨e, h⟩
  · replace e : c = 77 := e
    subst e
    obtain ⟨a0, tt0, e, h⟩ := vR_p id h
    replace e : l = _ := e
    subst e
    obtain ⟨xs0, tt1, e, h⟩ := vI_p id h
    replace e : tt0 = _ := e
    subst e
    obtain ⟨e, h⟩ := vE_p id h
    replace e : tt1 = [] := e
    subst e
    exact w_X11_alike_77 (J := fun c l M => PW_X11_alike X al n (fun v M2 => v = (some (.int r.1)) ∧ M2 = r.2) c l M) (R := fun v M => (v, M) = r) (fun _ _ _ h => h) (fun v M h => by cases h; exact ⟨rfl, rfl⟩) ((n_X11_alike_77 (lpP (fun (s : Sg) (r : Int32 × Mem) => PW_X11_alike X al n (fun v M2 => v = (some (.int r.1)) ∧ M2 = r.2) s.1 s.2.1 s.2.2) r) (fun c l M => some (.inl (c, l, M))) (fun v M => some (.inr (v, M))) none n a0 xs0 M).mp h)
  · exact h.elim

noncomputable abbrev f_X11_alike := b_X11_alike
theorem s_X11_alike {X : Nat × (Nat → Int32)} {al : Bool} {n : Nat} {a0 : Nat} {x1 : Int32} {x2 : Int32} {M : Mem} {v : Int32} {M1 : Mem} (h : f_X11_alike n a0 x1 x2 M = some (v, M1)) : AE yX11_alike cX11_alike 5 (some .int) al n X [.ref a0, .int x1, .int x2] M (some (.int v)) M1 := sb_X11_alike h
set_option maxHeartbeats 4000000 in
set_option maxRecDepth 100000 in
noncomputable def T_X10_side_0.{u} {α : Sort u} (R : Int32 → Mem → α) (N : α) (n : Nat) (a0 : Nat) (x1 : Int32) (M : Mem) : α := bnd2 (cal n (fun n => f_X10_noSlot n x1 M)) N (fun v1 M2 => if v1 = 0 then gd (fO M2 a0 10) N (bnd (M2.2.2.2.2 a0 5) N (fun r9 => gd (fA M2 r9 4 x1) N (bnd (M2.2.2.2.2 r9 (x1.toNatClampNeg)) N (fun r15 => gd (fO M2 r15 9) N (if (M2.2.2.1 r15 2) = 0 then R (-5) M2 else bnd (M2.2.2.2.2 a0 2) N (fun r20 => bnd2 (cal n (fun n => f_X10_provenBy n a0 x1 M2)) N (fun v22 M23 => gd (fO M23 r20 1) N (bnd2 (cal n (fun n => f_X1_kindOf n r20 v22 M23)) N (fun v29 M30 => if v29 = 11 then gd (fO M30 a0 10) N (bnd (M30.2.2.2.2 a0 8) N (fun r37 => bnd (M30.2.2.2.2 a0 5) N (fun r39 => gd (fA M30 r39 4 x1) N (bnd (M30.2.2.2.2 r39 (x1.toNatClampNeg)) N (fun r45 => bnd (M30.2.2.2.2 a0 13) N (fun r47 => gd (fO M30 r37 7) N (bnd2 (cal n (fun n => f_X7_reduceAll n r37 r45 r47 M30)) N (fun v51 M52 => if 0 ≤ v51 then gd (fO M52 a0 10) N (bnd (M52.2.2.2.2 a0 8) N (fun r59 => gd (fO M52 r59 7) N (bnd2 (cal n (fun n => f_X7_reduced n r59 M52)) N (fun v63 M64 => gd (fO M64 v63 9) N (bnd2 (cal n (fun n => f_X9_opAt n v63 0 M64)) N (fun v70 M71 => if v70 = 7 then R 0 M71 else if v70 = 8 then R 1 M71 else R (-1) M71)))))) else R (-4) M52)))))))) else R (-5) M30))))))))) else R (-2) M2)
set_option maxHeartbeats 4000000 in
set_option maxRecDepth 100000 in
theorem n_X10_side_0.{u, v} {α : Sort u} {β : Sort v} (h : α → β) (R : Int32 → Mem → α) (N : α) (n : Nat) (a0 : Nat) (x1 : Int32) (M : Mem) : h (T_X10_side_0 R N n a0 x1 M) = T_X10_side_0 (fun v M => h (R v M)) (h N) n a0 x1 M := by
  simp only [T_X10_side_0, nat_ite h, nat_gd h, nat_bnd h, nat_bnd2 h]
set_option maxHeartbeats 4000000 in
set_option maxRecDepth 100000 in
theorem w_X10_side_0 {X : Nat × (Nat → Int32)} {al : Bool} {n : Nat} {Q : Option Value → Mem → Prop} {R : Int32 → Mem → Prop} (hR : ∀ v M, R v M → Q (some (.int v)) M) {a0 : Nat} {x1 : Int32} {M : Mem} (h : T_X10_side_0 R False n a0 x1 M) : AW X (RX10, cX10_side, 3, (some .int), false, al, n) 0 0 0 [(0, .ref a0), (1, .int x1)] [] M Q := by
  unfold T_X10_side_0 at h
  refine a_iload_n dX10_side_0 rfl rfl ?_
  obtain ⟨v1, M2, e3, h⟩ := bnd2_t h
  obtain ⟨n4, en5, e3⟩ := cal_t e3
  refine e_callS (As := [.int x1]) (st := []) false dX10_side_1 mw_X10_noSlot (Or.inl ⟨rfl, ml_X10_151⟩) sm_X10_noSlot rfl (Nat.le_of_ble_eq_true rfl) en5 (s_X10_noSlot e3) ?_
  refine a_if_eq 10 dX10_side_4 (by decide) (fun c6 => ?_) (fun c6 => ?_)
  · replace h := ite_t c6 h
    refine a_aload_n dX10_side_10 rfl rfl ?_
    obtain ⟨⟨ga7, gs8⟩, h⟩ := gd_t h
    obtain ⟨r9, e10, h⟩ := bnd_t h
    refine a_get (v := .ref r9) dX10_side_11 fl_10_38 ga7 gs8 (gvR e10 rfl) ?_
    refine a_iload_n dX10_side_14 rfl rfl ?_
    obtain ⟨⟨ga11, gn12, gs13, gi14⟩, h⟩ := gd_t h
    obtain ⟨r15, e16, h⟩ := bnd_t h
    refine a_aaload dX10_side_15 ga11 gs13 gi14 e16 ?_
    obtain ⟨⟨ga17, gs18⟩, h⟩ := gd_t h
    refine a_getN (v := .int (M2.2.2.1 r15 2)) dX10_side_16 fn_10_171 ga17 gs18 rfl ?_
    refine a_if_eq 39 dX10_side_19 (by decide) (fun c19 => ?_) (fun c19 => ?_)
    · replace h := ite_t c19 h
      refine a_bipush (v := -5) dX10_side_39 (by decide) ?_
      exact a_iret dX10_side_41 rfl (hR _ _ h)
    · replace h := ite_f c19 h
      refine a_aload_n dX10_side_22 rfl rfl ?_
      obtain ⟨r20, e21, h⟩ := bnd_t h
      refine a_get (v := .ref r20) dX10_side_23 fl_10_16 ga7 gs8 (gvR e21 rfl) ?_
      refine a_aload_n dX10_side_26 rfl rfl ?_
      refine a_iload_n dX10_side_27 rfl rfl ?_
      obtain ⟨v22, M23, e24, h⟩ := bnd2_t h
      obtain ⟨n25, en26, e24⟩ := cal_t e24
      refine e_callV (As := [.int x1]) (st := [.ref r20]) (a := a0) (ci := 10) false dX10_side_28 mw_X10_provenBy (Or.inl ⟨rfl, ml_X10_275⟩) im_X10_provenBy se_X10_provenBy (by decide) ga7 gs8 rfl (Nat.le_of_ble_eq_true rfl) en26 (s_X10_provenBy e24) ?_
      obtain ⟨⟨ga27, gs28⟩, h⟩ := gd_t h
      obtain ⟨v29, M30, e31, h⟩ := bnd2_t h
      obtain ⟨n32, en33, e31⟩ := cal_t e31
      refine e_callV (As := [.int v22]) (st := []) (a := r20) (ci := 1) false dX10_side_31 mw_X1_kindOf (Or.inl ⟨rfl, ml_X10_303⟩) im_X1_kindOf se_X1_kindOf (by decide) ga27 gs28 rfl (Nat.le_of_ble_eq_true rfl) en33 (s_X1_kindOf e31) ?_
      refine a_bipush (v := 11) dX10_side_34 (by decide) ?_
      refine a_icmp_eq 42 dX10_side_36 (by decide) (fun c34 => ?_) (fun c34 => ?_)
      · replace h := ite_t c34 h
        refine a_aload_n dX10_side_42 rfl rfl ?_
        obtain ⟨⟨ga35, gs36⟩, h⟩ := gd_t h
        obtain ⟨r37, e38, h⟩ := bnd_t h
        refine a_get (v := .ref r37) dX10_side_43 fl_10_61 ga35 gs36 (gvR e38 rfl) ?_
        refine a_aload_n dX10_side_46 rfl rfl ?_
        obtain ⟨r39, e40, h⟩ := bnd_t h
        refine a_get (v := .ref r39) dX10_side_47 fl_10_38 ga35 gs36 (gvR e40 rfl) ?_
        refine a_iload_n dX10_side_50 rfl rfl ?_
        obtain ⟨⟨ga41, gn42, gs43, gi44⟩, h⟩ := gd_t h
        obtain ⟨r45, e46, h⟩ := bnd_t h
        refine a_aaload dX10_side_51 ga41 gs43 gi44 e46 ?_
        refine a_aload_n dX10_side_52 rfl rfl ?_
        obtain ⟨r47, e48, h⟩ := bnd_t h
        refine a_get (v := .ref r47) dX10_side_53 fl_10_99 ga35 gs36 (gvR e48 rfl) ?_
        obtain ⟨⟨ga49, gs50⟩, h⟩ := gd_t h
        obtain ⟨v51, M52, e53, h⟩ := bnd2_t h
        obtain ⟨n54, en55, e53⟩ := cal_t e53
        refine e_callV (As := [.ref r45, .ref r47]) (st := []) (a := r37) (ci := 7) false dX10_side_56 mw_X7_reduceAll (Or.inl ⟨rfl, ml_X10_261⟩) im_X7_reduceAll se_X7_reduceAll (by decide) ga49 gs50 rfl (Nat.le_of_ble_eq_true rfl) en55 (s_X7_reduceAll e53) ?_
        refine a_if_ge 65 dX10_side_59 (by decide) (fun c56 => ?_) (fun c56 => ?_)
        · replace h := ite_t c56 h
          refine a_aload_n dX10_side_65 rfl rfl ?_
          obtain ⟨⟨ga57, gs58⟩, h⟩ := gd_t h
          obtain ⟨r59, e60, h⟩ := bnd_t h
          refine a_get (v := .ref r59) dX10_side_66 fl_10_61 ga57 gs58 (gvR e60 rfl) ?_
          obtain ⟨⟨ga61, gs62⟩, h⟩ := gd_t h
          obtain ⟨v63, M64, e65, h⟩ := bnd2_t h
          obtain ⟨n66, en67, e65⟩ := cal_t e65
          refine e_callV (As := []) (st := []) (a := r59) (ci := 7) false dX10_side_69 mw_X7_reduced (Or.inl ⟨rfl, ml_X10_265⟩) im_X7_reduced se_X7_reduced (by decide) ga61 gs62 rfl (Nat.le_of_ble_eq_true rfl) en67 (s_X7_reduced e65) ?_
          refine a_iconst (v := 0) dX10_side_72 (by decide) ?_
          obtain ⟨⟨ga68, gs69⟩, h⟩ := gd_t h
          obtain ⟨v70, M71, e72, h⟩ := bnd2_t h
          obtain ⟨n73, en74, e72⟩ := cal_t e72
          refine e_callV (As := [.int 0]) (st := []) (a := v63) (ci := 9) false dX10_side_73 mw_X9_opAt (Or.inl ⟨rfl, ml_X10_306⟩) im_X9_opAt se_X9_opAt (by decide) ga68 gs69 rfl (Nat.le_of_ble_eq_true rfl) en74 (s_X9_opAt e72) ?_
          refine a_istore_n dX10_side_76 rfl (Nat.le_of_ble_eq_true rfl) (lv2 := [(2, .int v70), (0, .ref a0), (1, .int x1)]) rfl ?_
          refine a_iload_n dX10_side_77 rfl rfl ?_
          refine a_bipush (v := 7) dX10_side_78 (by decide) ?_
          refine a_icmp_ne 85 dX10_side_80 (by decide) (fun c75 => ?_) (fun c75 => ?_)
          · replace h := ite_f c75 h
            refine a_iload_n dX10_side_85 rfl rfl ?_
            refine a_bipush (v := 8) dX10_side_86 (by decide) ?_
            refine a_icmp_ne 95 dX10_side_88 (by decide) (fun c76 => ?_) (fun c76 => ?_)
            · replace h := ite_f c76 h
              refine a_iconst (v := -1) dX10_side_95 (by decide) ?_
              exact a_iret dX10_side_96 rfl (hR _ _ h)
            · replace h := ite_t c76 h
              refine a_iconst (v := 1) dX10_side_91 (by decide) ?_
              refine a_goto 96 dX10_side_92 (by decide) ?_
              exact a_iret dX10_side_96 rfl (hR _ _ h)
          · replace h := ite_t c75 h
            refine a_iconst (v := 0) dX10_side_83 (by decide) ?_
            exact a_iret dX10_side_84 rfl (hR _ _ h)
        · replace h := ite_f c56 h
          refine a_bipush (v := -4) dX10_side_62 (by decide) ?_
          exact a_iret dX10_side_64 rfl (hR _ _ h)
      · replace h := ite_f c34 h
        refine a_bipush (v := -5) dX10_side_39 (by decide) ?_
        exact a_iret dX10_side_41 rfl (hR _ _ h)
  · replace h := ite_f c6 h
    refine a_bipush (v := -2) dX10_side_7 (by decide) ?_
    exact a_iret dX10_side_9 rfl (hR _ _ h)
noncomputable def b_X10_side (n : Nat) (a0 : Nat) (x1 : Int32) (M : Mem) : Option (Int32 × Mem) := T_X10_side_0 (fun v M => some (v, M)) none n a0 x1 M
set_option maxHeartbeats 4000000 in
set_option maxRecDepth 100000 in
theorem sb_X10_side {X : Nat × (Nat → Int32)} {al : Bool} {n : Nat} {a0 : Nat} {x1 : Int32} {M : Mem} {v : Int32} {M1 : Mem} (h : b_X10_side n a0 x1 M = some (v, M1)) : AE yX10_side cX10_side 3 (some .int) al n X [.ref a0, .int x1] M (some (.int v)) M1 := by
  refine AM.of false (by decide +kernel) (by intro h; cases h) (Nat.le_of_ble_eq_true rfl) ?_
  have h2 : T_X10_side_0 (fun v2 M2 => some (v2, M2) = some (v, M1)) (none = some (v, M1)) n a0 x1 M := (n_X10_side_0 (fun o => o = some (v, M1)) (fun v M => some (v, M)) none n a0 x1 M).mp h
  have h3 : ((none : Option (Int32 × Mem)) = some (v, M1)) = False := eq_false (by intro q; cases q)
  rw [h3] at h2
  exact w_X10_side_0 (fun v2 M2 h => by cases h; exact ⟨rfl, rfl⟩) h2

noncomputable abbrev f_X10_side := b_X10_side
theorem s_X10_side {X : Nat × (Nat → Int32)} {al : Bool} {n : Nat} {a0 : Nat} {x1 : Int32} {M : Mem} {v : Int32} {M1 : Mem} (h : f_X10_side n a0 x1 M = some (v, M1)) : AE yX10_side cX10_side 3 (some .int) al n X [.ref a0, .int x1] M (some (.int v)) M1 := sb_X10_side h
set_option maxHeartbeats 4000000 in
set_option maxRecDepth 100000 in
noncomputable def T_X11_side_0.{u} {α : Sort u} (R : Int32 → Mem → α) (N : α) (n : Nat) (a0 : Nat) (x1 : Int32) (M : Mem) : α := gd (fO M a0 11) N (bnd2 (cal n (fun n => f_X11_isSlot n x1 (wI M a0 0 0))) N (fun v3 M4 => if v3 = 0 then R (-2) M4 else gd (fO M4 a0 11) N (bnd2 (cal n (fun n => f_X11_isEmpty n a0 x1 M4)) N (fun v11 M12 => if v11 = 0 then gd (fO M12 a0 11) N (bnd2 (cal n (fun n => f_X11_takes n a0 x1 M12)) N (fun _ M19 => gd (fO M19 a0 11) N (bnd (M19.2.2.2.2 a0 1) N (fun r25 => bnd2 (cal n (fun n => f_X11_asked n a0 M19)) N (fun v27 M28 => gd (fA M28 r25 1 v27) N (if (M28.2.2.1 r25 (v27.toNatClampNeg)) = 11 then gd (fO M28 a0 11) N (bnd2 (cal n (fun n => f_X11_normalize n a0 M28)) N (fun v39 M40 => if 0 ≤ v39 then gd (fO M40 a0 11) N (bnd (M40.2.2.2.2 a0 20) N (fun r47 => gd (fA M40 r47 1 0) N (if (M40.2.2.1 r47 ((0 : Int32).toNatClampNeg)) = 6 then R 0 M40 else if (M40.2.2.1 r47 ((0 : Int32).toNatClampNeg)) = 7 then R 1 M40 else R (-1) M40))) else R v39 M40)) else R (-5) M28)))))) else R (-5) M12))))
set_option maxHeartbeats 4000000 in
set_option maxRecDepth 100000 in
theorem n_X11_side_0.{u, v} {α : Sort u} {β : Sort v} (h : α → β) (R : Int32 → Mem → α) (N : α) (n : Nat) (a0 : Nat) (x1 : Int32) (M : Mem) : h (T_X11_side_0 R N n a0 x1 M) = T_X11_side_0 (fun v M => h (R v M)) (h N) n a0 x1 M := by
  simp only [T_X11_side_0, nat_ite h, nat_gd h, nat_bnd h, nat_bnd2 h]
set_option maxHeartbeats 4000000 in
set_option maxRecDepth 100000 in
theorem w_X11_side_0 {X : Nat × (Nat → Int32)} {al : Bool} {n : Nat} {Q : Option Value → Mem → Prop} {R : Int32 → Mem → Prop} (hR : ∀ v M, R v M → Q (some (.int v)) M) {a0 : Nat} {x1 : Int32} {M : Mem} (h : T_X11_side_0 R False n a0 x1 M) : AW X (RX11, cX11_side, 3, (some .int), false, al, n) 0 0 0 [(0, .ref a0), (1, .int x1)] [] M Q := by
  unfold T_X11_side_0 at h
  refine a_aload_n dX11_side_0 rfl rfl ?_
  refine a_iconst (v := 0) dX11_side_1 (by decide) ?_
  obtain ⟨⟨ga1, gs2⟩, h⟩ := gd_t h
  refine a_putI dX11_side_2 (Or.inl ⟨fl_11_1, Or.inl rfl⟩) rfl ga1 gs2 rfl rfl ?_
  refine a_iload_n dX11_side_5 rfl rfl ?_
  obtain ⟨v3, M4, e5, h⟩ := bnd2_t h
  obtain ⟨n6, en7, e5⟩ := cal_t e5
  refine e_callS (As := [.int x1]) (st := []) false dX11_side_6 mw_X11_isSlot (Or.inl ⟨rfl, ml_X11_271⟩) sm_X11_isSlot rfl (Nat.le_of_ble_eq_true rfl) en7 (s_X11_isSlot e5) ?_
  refine a_if_ne 15 dX11_side_9 (by decide) (fun c8 => ?_) (fun c8 => ?_)
  · replace h := ite_f c8 h
    refine a_aload_n dX11_side_15 rfl rfl ?_
    refine a_iload_n dX11_side_16 rfl rfl ?_
    obtain ⟨⟨ga9, gs10⟩, h⟩ := gd_t h
    obtain ⟨v11, M12, e13, h⟩ := bnd2_t h
    obtain ⟨n14, en15, e13⟩ := cal_t e13
    refine e_callV (As := [.int x1]) (st := []) (a := a0) (ci := 11) false dX11_side_17 mw_X11_isEmpty (Or.inl ⟨rfl, ml_X11_343⟩) im_X11_isEmpty se_X11_isEmpty (by decide) ga9 gs10 rfl (Nat.le_of_ble_eq_true rfl) en15 (s_X11_isEmpty e13) ?_
    refine a_if_eq 26 dX11_side_20 (by decide) (fun c16 => ?_) (fun c16 => ?_)
    · replace h := ite_t c16 h
      refine a_aload_n dX11_side_26 rfl rfl ?_
      refine a_iload_n dX11_side_27 rfl rfl ?_
      obtain ⟨⟨ga17, gs18⟩, h⟩ := gd_t h
      obtain ⟨_, M19, e20, h⟩ := bnd2_t h
      obtain ⟨n21, en22, e20⟩ := cal_t e20
      refine e_callV (As := [.int x1]) (st := []) (a := a0) (ci := 11) false dX11_side_28 mw_X11_takes (Or.inl ⟨rfl, ml_X11_346⟩) im_X11_takes se_X11_takes (by decide) ga17 gs18 rfl (Nat.le_of_ble_eq_true rfl) en22 (s_X11_takes e20) ?_
      refine a_aload_n dX11_side_31 rfl rfl ?_
      obtain ⟨⟨ga23, gs24⟩, h⟩ := gd_t h
      obtain ⟨r25, e26, h⟩ := bnd_t h
      refine a_get (v := .ref r25) dX11_side_32 fl_11_13 ga23 gs24 (gvR e26 rfl) ?_
      refine a_aload_n dX11_side_35 rfl rfl ?_
      obtain ⟨v27, M28, e29, h⟩ := bnd2_t h
      obtain ⟨n30, en31, e29⟩ := cal_t e29
      refine e_callV (As := []) (st := [.ref r25]) (a := a0) (ci := 11) false dX11_side_36 mw_X11_asked (Or.inl ⟨rfl, ml_X11_331⟩) im_X11_asked se_X11_asked (by decide) ga23 gs24 rfl (Nat.le_of_ble_eq_true rfl) en31 (s_X11_asked e29) ?_
      obtain ⟨⟨ga32, gn33, gs34, gi35⟩, h⟩ := gd_t h
      refine a_iaload dX11_side_39 ga32 gs34 gi35 ?_
      refine a_bipush (v := 11) dX11_side_40 (by decide) ?_
      refine a_icmp_eq 48 dX11_side_42 (by decide) (fun c36 => ?_) (fun c36 => ?_)
      · replace h := ite_t c36 h
        refine a_aload_n dX11_side_48 rfl rfl ?_
        obtain ⟨⟨ga37, gs38⟩, h⟩ := gd_t h
        obtain ⟨v39, M40, e41, h⟩ := bnd2_t h
        obtain ⟨n42, en43, e41⟩ := cal_t e41
        refine e_callV (As := []) (st := []) (a := a0) (ci := 11) false dX11_side_49 mw_X11_normalize (Or.inl ⟨rfl, ml_X11_355⟩) im_X11_normalize se_X11_normalize (by decide) ga37 gs38 rfl (Nat.le_of_ble_eq_true rfl) en43 (s_X11_normalize e41) ?_
        refine a_istore_n dX11_side_52 rfl (Nat.le_of_ble_eq_true rfl) (lv2 := [(2, .int v39), (0, .ref a0), (1, .int x1)]) rfl ?_
        refine a_iload_n dX11_side_53 rfl rfl ?_
        refine a_if_ge 59 dX11_side_54 (by decide) (fun c44 => ?_) (fun c44 => ?_)
        · replace h := ite_t c44 h
          refine a_aload_n dX11_side_59 rfl rfl ?_
          obtain ⟨⟨ga45, gs46⟩, h⟩ := gd_t h
          obtain ⟨r47, e48, h⟩ := bnd_t h
          refine a_get (v := .ref r47) dX11_side_60 fl_11_59 ga45 gs46 (gvR e48 rfl) ?_
          refine a_iconst (v := 0) dX11_side_63 (by decide) ?_
          obtain ⟨⟨ga49, gn50, gs51, gi52⟩, h⟩ := gd_t h
          refine a_iaload dX11_side_64 ga49 gs51 gi52 ?_
          refine a_bipush (v := 6) dX11_side_65 (by decide) ?_
          refine a_icmp_ne 74 dX11_side_67 (by decide) (fun c53 => ?_) (fun c53 => ?_)
          · replace h := ite_f c53 h
            refine a_aload_n dX11_side_74 rfl rfl ?_
            refine a_get (v := .ref r47) dX11_side_75 fl_11_59 ga45 gs46 (gvR e48 rfl) ?_
            refine a_iconst (v := 0) dX11_side_78 (by decide) ?_
            refine a_iaload dX11_side_79 ga49 gs51 gi52 ?_
            refine a_bipush (v := 7) dX11_side_80 (by decide) ?_
            refine a_icmp_ne 89 dX11_side_82 (by decide) (fun c54 => ?_) (fun c54 => ?_)
            · replace h := ite_f c54 h
              refine a_iconst (v := -1) dX11_side_89 (by decide) ?_
              exact a_iret dX11_side_90 rfl (hR _ _ h)
            · replace h := ite_t c54 h
              refine a_iconst (v := 1) dX11_side_85 (by decide) ?_
              refine a_goto 90 dX11_side_86 (by decide) ?_
              exact a_iret dX11_side_90 rfl (hR _ _ h)
          · replace h := ite_t c53 h
            refine a_iconst (v := 0) dX11_side_70 (by decide) ?_
            refine a_goto 90 dX11_side_71 (by decide) ?_
            exact a_iret dX11_side_90 rfl (hR _ _ h)
        · replace h := ite_f c44 h
          refine a_iload_n dX11_side_57 rfl rfl ?_
          exact a_iret dX11_side_58 rfl (hR _ _ h)
      · replace h := ite_f c36 h
        refine a_bipush (v := -5) dX11_side_45 (by decide) ?_
        exact a_iret dX11_side_47 rfl (hR _ _ h)
    · replace h := ite_f c16 h
      refine a_bipush (v := -5) dX11_side_23 (by decide) ?_
      exact a_iret dX11_side_25 rfl (hR _ _ h)
  · replace h := ite_t c8 h
    refine a_bipush (v := -2) dX11_side_12 (by decide) ?_
    exact a_iret dX11_side_14 rfl (hR _ _ h)
noncomputable def b_X11_side (n : Nat) (a0 : Nat) (x1 : Int32) (M : Mem) : Option (Int32 × Mem) := T_X11_side_0 (fun v M => some (v, M)) none n a0 x1 M
set_option maxHeartbeats 4000000 in
set_option maxRecDepth 100000 in
theorem sb_X11_side {X : Nat × (Nat → Int32)} {al : Bool} {n : Nat} {a0 : Nat} {x1 : Int32} {M : Mem} {v : Int32} {M1 : Mem} (h : b_X11_side n a0 x1 M = some (v, M1)) : AE yX11_side cX11_side 3 (some .int) al n X [.ref a0, .int x1] M (some (.int v)) M1 := by
  refine AM.of false (by decide +kernel) (by intro h; cases h) (Nat.le_of_ble_eq_true rfl) ?_
  have h2 : T_X11_side_0 (fun v2 M2 => some (v2, M2) = some (v, M1)) (none = some (v, M1)) n a0 x1 M := (n_X11_side_0 (fun o => o = some (v, M1)) (fun v M => some (v, M)) none n a0 x1 M).mp h
  have h3 : ((none : Option (Int32 × Mem)) = some (v, M1)) = False := eq_false (by intro q; cases q)
  rw [h3] at h2
  exact w_X11_side_0 (fun v2 M2 h => by cases h; exact ⟨rfl, rfl⟩) h2

noncomputable abbrev f_X11_side := b_X11_side
theorem s_X11_side {X : Nat × (Nat → Int32)} {al : Bool} {n : Nat} {a0 : Nat} {x1 : Int32} {M : Mem} {v : Int32} {M1 : Mem} (h : f_X11_side n a0 x1 M = some (v, M1)) : AE yX11_side cX11_side 3 (some .int) al n X [.ref a0, .int x1] M (some (.int v)) M1 := sb_X11_side h
def ix_X2_wordsInAll (c : Nat) : List Nat := if c = 0 then [0] else if c = 4 then [0, 1, 2] else []
def PW_X2_wordsInAll (X : Nat × (Nat → Int32)) (al : Bool) (n : Nat) (Q : Option Value → Mem → Prop) (c : Nat) (l : List Value) (M : Mem) : Prop := AW X (RX2, cX2_wordsInAll, 3, (some .int), false, al, n) 0 0 c (List.zip (ix_X2_wordsInAll c) l) (l.drop (ix_X2_wordsInAll c).length) M Q
set_option maxHeartbeats 4000000 in
set_option maxRecDepth 100000 in
noncomputable def T_X2_wordsInAll_0.{u} {α : Sort u} (J : Nat → List Value → Mem → α) (R : Int32 → Mem → α) (N : α) (n : Nat) (a0 : Nat) (M : Mem) : α := J 4 [.ref a0, .int 0, .int 0] M
set_option maxHeartbeats 4000000 in
set_option maxRecDepth 100000 in
theorem n_X2_wordsInAll_0.{u, v} {α : Sort u} {β : Sort v} (h : α → β) (J : Nat → List Value → Mem → α) (R : Int32 → Mem → α) (N : α) (n : Nat) (a0 : Nat) (M : Mem) : h (T_X2_wordsInAll_0 J R N n a0 M) = T_X2_wordsInAll_0 (fun c l M => h (J c l M)) (fun v M => h (R v M)) (h N) n a0 M := by
  simp only [T_X2_wordsInAll_0, nat_ite h, nat_gd h, nat_bnd h, nat_bnd2 h]
set_option maxHeartbeats 4000000 in
set_option maxRecDepth 100000 in
theorem w_X2_wordsInAll_0 {X : Nat × (Nat → Int32)} {al : Bool} {n : Nat} {Q : Option Value → Mem → Prop} {J : Nat → List Value → Mem → Prop} (hJ : ∀ c l M, J c l M → PW_X2_wordsInAll X al n Q c l M) {R : Int32 → Mem → Prop} (hR : ∀ v M, R v M → Q (some (.int v)) M) {a0 : Nat} {M : Mem} (h : T_X2_wordsInAll_0 J R False n a0 M) : AW X (RX2, cX2_wordsInAll, 3, (some .int), false, al, n) 0 0 0 [(0, .ref a0)] [] M Q := by
  unfold T_X2_wordsInAll_0 at h
  refine a_iconst (v := 0) dX2_wordsInAll_0 (by decide) ?_
  refine a_istore_n dX2_wordsInAll_1 rfl (Nat.le_of_ble_eq_true rfl) (lv2 := [(1, .int 0), (0, .ref a0)]) rfl ?_
  refine a_iconst (v := 0) dX2_wordsInAll_2 (by decide) ?_
  refine a_istore_n dX2_wordsInAll_3 rfl (Nat.le_of_ble_eq_true rfl) (lv2 := [(2, .int 0), (1, .int 0), (0, .ref a0)]) rfl ?_
  exact a_lv (lv2 := [(0, .ref a0), (1, .int 0), (2, .int 0)]) (fa_cons rfl (fa_cons rfl (fa_cons rfl fa_nil))) (hJ _ _ _ h)
set_option maxHeartbeats 4000000 in
set_option maxRecDepth 100000 in
noncomputable def T_X2_wordsInAll_4.{u} {α : Sort u} (J : Nat → List Value → Mem → α) (R : Int32 → Mem → α) (N : α) (n : Nat) (a0 : Nat) (x1 : Int32) (x2 : Int32) (M : Mem) : α := gd (fO M a0 2) N (if (M.2.2.1 a0 3) ≤ x2 then R x1 M else if 6 ≤ x2 then R x1 M else bnd (M.2.2.2.2 a0 2) N (fun r5 => gd (fA M r5 1 x2) N (J 4 [.ref a0, .int (x1 + (M.2.2.1 r5 (x2.toNatClampNeg))), .int (x2 + 1)] M)))
set_option maxHeartbeats 4000000 in
set_option maxRecDepth 100000 in
theorem n_X2_wordsInAll_4.{u, v} {α : Sort u} {β : Sort v} (h : α → β) (J : Nat → List Value → Mem → α) (R : Int32 → Mem → α) (N : α) (n : Nat) (a0 : Nat) (x1 : Int32) (x2 : Int32) (M : Mem) : h (T_X2_wordsInAll_4 J R N n a0 x1 x2 M) = T_X2_wordsInAll_4 (fun c l M => h (J c l M)) (fun v M => h (R v M)) (h N) n a0 x1 x2 M := by
  simp only [T_X2_wordsInAll_4, nat_ite h, nat_gd h, nat_bnd h, nat_bnd2 h]
set_option maxHeartbeats 4000000 in
set_option maxRecDepth 100000 in
theorem w_X2_wordsInAll_4 {X : Nat × (Nat → Int32)} {al : Bool} {n : Nat} {Q : Option Value → Mem → Prop} {J : Nat → List Value → Mem → Prop} (hJ : ∀ c l M, J c l M → PW_X2_wordsInAll X al n Q c l M) {R : Int32 → Mem → Prop} (hR : ∀ v M, R v M → Q (some (.int v)) M) {a0 : Nat} {x1 : Int32} {x2 : Int32} {M : Mem} (h : T_X2_wordsInAll_4 J R False n a0 x1 x2 M) : AW X (RX2, cX2_wordsInAll, 3, (some .int), false, al, n) 0 0 4 [(0, .ref a0), (1, .int x1), (2, .int x2)] [] M Q := by
  unfold T_X2_wordsInAll_4 at h
  refine a_iload_n dX2_wordsInAll_4 rfl rfl ?_
  refine a_aload_n dX2_wordsInAll_5 rfl rfl ?_
  obtain ⟨⟨ga1, gs2⟩, h⟩ := gd_t h
  refine a_get (v := .int (M.2.2.1 a0 3)) dX2_wordsInAll_6 fl_2_21 ga1 gs2 rfl ?_
  refine a_icmp_ge 33 dX2_wordsInAll_9 (by decide) (fun c3 => ?_) (fun c3 => ?_)
  · replace h := ite_t c3 h
    refine a_iload_n dX2_wordsInAll_33 rfl rfl ?_
    exact a_iret dX2_wordsInAll_34 rfl (hR _ _ h)
  · replace h := ite_f c3 h
    refine a_iload_n dX2_wordsInAll_12 rfl rfl ?_
    refine a_bipush (v := 6) dX2_wordsInAll_13 (by decide) ?_
    refine a_icmp_ge 33 dX2_wordsInAll_15 (by decide) (fun c4 => ?_) (fun c4 => ?_)
    · replace h := ite_t c4 h
      refine a_iload_n dX2_wordsInAll_33 rfl rfl ?_
      exact a_iret dX2_wordsInAll_34 rfl (hR _ _ h)
    · replace h := ite_f c4 h
      refine a_iload_n dX2_wordsInAll_18 rfl rfl ?_
      refine a_aload_n dX2_wordsInAll_19 rfl rfl ?_
      obtain ⟨r5, e6, h⟩ := bnd_t h
      refine a_get (v := .ref r5) dX2_wordsInAll_20 fl_2_18 ga1 gs2 (gvR e6 rfl) ?_
      refine a_iload_n dX2_wordsInAll_23 rfl rfl ?_
      obtain ⟨⟨ga7, gn8, gs9, gi10⟩, h⟩ := gd_t h
      refine a_iaload dX2_wordsInAll_24 ga7 gs9 gi10 ?_
      refine a_iadd dX2_wordsInAll_25 ?_
      refine a_istore_n dX2_wordsInAll_26 rfl (Nat.le_of_ble_eq_true rfl) (lv2 := [(1, .int (x1 + (M.2.2.1 r5 (x2.toNatClampNeg)))), (0, .ref a0), (2, .int x2)]) rfl ?_
      refine a_iinc (v := (x2 + 1)) dX2_wordsInAll_27 rfl (by first | rfl | decide) (Nat.le_of_ble_eq_true rfl) (lv2 := [(2, .int (x2 + 1)), (1, .int (x1 + (M.2.2.1 r5 (x2.toNatClampNeg)))), (0, .ref a0)]) rfl ?_
      refine a_goto 4 dX2_wordsInAll_30 (by decide) ?_
      exact a_lv (lv2 := [(0, .ref a0), (1, .int (x1 + (M.2.2.1 r5 (x2.toNatClampNeg)))), (2, .int (x2 + 1))]) (fa_cons rfl (fa_cons rfl (fa_cons rfl fa_nil))) (hJ _ _ _ h)
set_option maxHeartbeats 4000000 in
set_option maxRecDepth 100000 in
noncomputable def st_X2_wordsInAll (n : Nat) (s : Sg) : Option (Sg ⊕ (Int32 × Mem)) := if s.1 = 0 then vR s.2.1 none (fun a0 t => vE t none (T_X2_wordsInAll_0 (fun c l M => some (.inl (c, l, M))) (fun v M => some (.inr (v, M))) none n a0 s.2.2)) else if s.1 = 4 then vR s.2.1 none (fun a0 t => vI t none (fun x1 t => vI t none (fun x2 t => vE t none (T_X2_wordsInAll_4 (fun c l M => some (.inl (c, l, M))) (fun v M => some (.inr (v, M))) none n a0 x1 x2 s.2.2)))) else none
noncomputable abbrev g_X2_wordsInAll_0 (n : Nat) (a0 : Nat) (M : Mem) : Option (Int32 × Mem) := lp (st_X2_wordsInAll n) (0, [.ref a0], M)
set_option maxHeartbeats 4000000 in
set_option maxRecDepth 100000 in
theorem ge_X2_wordsInAll_0 (n : Nat) (a0 : Nat) (M : Mem) : g_X2_wordsInAll_0 n a0 M = T_X2_wordsInAll_0 (fun c l M => lp (st_X2_wordsInAll n) (c, l, M)) (fun v M => some (v, M)) none n a0 M := (lp_eq _ _).trans (n_X2_wordsInAll_0 (lpK (st_X2_wordsInAll n)) (fun c l M => some (.inl (c, l, M))) (fun v M => some (.inr (v, M))) none n a0 M)
noncomputable abbrev g_X2_wordsInAll_4 (n : Nat) (a0 : Nat) (x1 : Int32) (x2 : Int32) (M : Mem) : Option (Int32 × Mem) := lp (st_X2_wordsInAll n) (4, [.ref a0, .int x1, .int x2], M)
set_option maxHeartbeats 4000000 in
set_option maxRecDepth 100000 in
theorem ge_X2_wordsInAll_4 (n : Nat) (a0 : Nat) (x1 : Int32) (x2 : Int32) (M : Mem) : g_X2_wordsInAll_4 n a0 x1 x2 M = T_X2_wordsInAll_4 (fun c l M => lp (st_X2_wordsInAll n) (c, l, M)) (fun v M => some (v, M)) none n a0 x1 x2 M := (lp_eq _ _).trans (n_X2_wordsInAll_4 (lpK (st_X2_wordsInAll n)) (fun c l M => some (.inl (c, l, M))) (fun v M => some (.inr (v, M))) none n a0 x1 x2 M)
noncomputable def b_X2_wordsInAll (n : Nat) (a0 : Nat) (M : Mem) : Option (Int32 × Mem) := g_X2_wordsInAll_0 n a0 M
set_option maxHeartbeats 4000000 in
set_option maxRecDepth 100000 in
theorem sb_X2_wordsInAll {X : Nat × (Nat → Int32)} {al : Bool} {n : Nat} {a0 : Nat} {M : Mem} {v : Int32} {M1 : Mem} (h : b_X2_wordsInAll n a0 M = some (v, M1)) : AE yX2_wordsInAll cX2_wordsInAll 3 (some .int) al n X [.ref a0] M (some (.int v)) M1 := by
  refine AM.of false (by decide +kernel) (by intro h; cases h) (Nat.le_of_ble_eq_true rfl) ?_
  refine lp_snd (P := fun s r => PW_X2_wordsInAll X al n (fun v M2 => v = (some (.int r.1)) ∧ M2 = r.2) s.1 s.2.1 s.2.2) ?_ h
  clear h
  rintro ⟨c, l, M⟩ r h
  unfold st_X2_wordsInAll at h
  rcases ite_p h with ⟨e, h⟩ | ⟨e, h⟩
  · replace e : c = 0 := e
    subst e
    obtain ⟨a0, tt0, e, h⟩ := vR_p id h
    replace e : l = _ := e
    subst e
    obtain ⟨e, h⟩ := vE_p id h
    replace e : tt0 = [] := e
    subst e
    exact w_X2_wordsInAll_0 (J := fun c l M => PW_X2_wordsInAll X al n (fun v M2 => v = (some (.int r.1)) ∧ M2 = r.2) c l M) (R := fun v M => (v, M) = r) (fun _ _ _ h => h) (fun v M h => by cases h; exact ⟨rfl, rfl⟩) ((n_X2_wordsInAll_0 (lpP (fun (s : Sg) (r : Int32 × Mem) => PW_X2_wordsInAll X al n (fun v M2 => v = (some (.int r.1)) ∧ M2 = r.2) s.1 s.2.1 s.2.2) r) (fun c l M => some (.inl (c, l, M))) (fun v M => some (.inr (v, M))) none n a0 M).mp h)
  rcases ite_p h with ⟨e, h⟩ | ⟨e, h⟩
  · replace e : c = 4 := e
    subst e
    obtain ⟨a0, tt0, e, h⟩ := vR_p id h
    replace e : l = _ := e
    subst e
    obtain ⟨x1, tt1, e, h⟩ := vI_p id h
    replace e : tt0 = _ := e
    subst e
    obtain ⟨x2, tt2, e, h⟩ := vI_p id h
    replace e : tt1 = _ := e
    subst e
    obtain ⟨e, h⟩ := vE_p id h
    replace e : tt2 = [] := e
    subst e
    exact w_X2_wordsInAll_4 (J := fun c l M => PW_X2_wordsInAll X al n (fun v M2 => v = (some (.int r.1)) ∧ M2 = r.2) c l M) (R := fun v M => (v, M) = r) (fun _ _ _ h => h) (fun v M h => by cases h; exact ⟨rfl, rfl⟩) ((n_X2_wordsInAll_4 (lpP (fun (s : Sg) (r : Int32 × Mem) => PW_X2_wordsInAll X al n (fun v M2 => v = (some (.int r.1)) ∧ M2 = r.2) s.1 s.2.1 s.2.2) r) (fun c l M => some (.inl (c, l, M))) (fun v M => some (.inr (v, M))) none n a0 x1 x2 M).mp h)
  · exact h.elim

noncomputable abbrev f_X2_wordsInAll := b_X2_wordsInAll
theorem s_X2_wordsInAll {X : Nat × (Nat → Int32)} {al : Bool} {n : Nat} {a0 : Nat} {M : Mem} {v : Int32} {M1 : Mem} (h : f_X2_wordsInAll n a0 M = some (v, M1)) : AE yX2_wordsInAll cX2_wordsInAll 3 (some .int) al n X [.ref a0] M (some (.int v)) M1 := sb_X2_wordsInAll h
set_option maxHeartbeats 4000000 in
set_option maxRecDepth 100000 in
noncomputable def T_X1_isMarked_0.{u} {α : Sort u} (R : Int32 → Mem → α) (N : α) (n : Nat) (a0 : Nat) (x1 : Int32) (M : Mem) : α := if x1 < 0 then R 0 M else gd (fO M a0 1) N (if (M.2.2.1 a0 7) ≤ x1 then R 0 M else bnd (M.2.2.2.2 a0 5) N (fun r5 => gd (fA M r5 1 x1) N (if (M.2.2.1 r5 (x1.toNatClampNeg)) = (M.2.2.1 a0 8) then R 1 M else R 0 M)))
set_option maxHeartbeats 4000000 in
set_option maxRecDepth 100000 in
theorem n_X1_isMarked_0.{u, v} {α : Sort u} {β : Sort v} (h : α → β) (R : Int32 → Mem → α) (N : α) (n : Nat) (a0 : Nat) (x1 : Int32) (M : Mem) : h (T_X1_isMarked_0 R N n a0 x1 M) = T_X1_isMarked_0 (fun v M => h (R v M)) (h N) n a0 x1 M := by
  simp only [T_X1_isMarked_0, nat_ite h, nat_gd h, nat_bnd h, nat_bnd2 h]
set_option maxHeartbeats 4000000 in
set_option maxRecDepth 100000 in
theorem w_X1_isMarked_0 {X : Nat × (Nat → Int32)} {al : Bool} {n : Nat} {Q : Option Value → Mem → Prop} {R : Int32 → Mem → Prop} (hR : ∀ v M, R v M → Q (some (.int v)) M) {a0 : Nat} {x1 : Int32} {M : Mem} (h : T_X1_isMarked_0 R False n a0 x1 M) : AW X (RX1, cX1_isMarked, 2, (some .boolean), false, al, n) 0 0 0 [(0, .ref a0), (1, .int x1)] [] M Q := by
  unfold T_X1_isMarked_0 at h
  refine a_iload_n dX1_isMarked_0 rfl rfl ?_
  refine a_if_lt 29 dX1_isMarked_1 (by decide) (fun c1 => ?_) (fun c1 => ?_)
  · replace h := ite_t c1 h
    refine a_iconst (v := 0) dX1_isMarked_29 (by decide) ?_
    exact a_zret dX1_isMarked_30 rfl rfl (hR _ _ h)
  · replace h := ite_f c1 h
    refine a_iload_n dX1_isMarked_4 rfl rfl ?_
    refine a_aload_n dX1_isMarked_5 rfl rfl ?_
    obtain ⟨⟨ga2, gs3⟩, h⟩ := gd_t h
    refine a_get (v := .int (M.2.2.1 a0 7)) dX1_isMarked_6 fl_1_38 ga2 gs3 rfl ?_
    refine a_icmp_ge 29 dX1_isMarked_9 (by decide) (fun c4 => ?_) (fun c4 => ?_)
    · replace h := ite_t c4 h
      refine a_iconst (v := 0) dX1_isMarked_29 (by decide) ?_
      exact a_zret dX1_isMarked_30 rfl rfl (hR _ _ h)
    · replace h := ite_f c4 h
      refine a_aload_n dX1_isMarked_12 rfl rfl ?_
      obtain ⟨r5, e6, h⟩ := bnd_t h
      refine a_get (v := .ref r5) dX1_isMarked_13 fl_1_28 ga2 gs3 (gvR e6 rfl) ?_
      refine a_iload_n dX1_isMarked_16 rfl rfl ?_
      obtain ⟨⟨ga7, gn8, gs9, gi10⟩, h⟩ := gd_t h
      refine a_iaload dX1_isMarked_17 ga7 gs9 gi10 ?_
      refine a_aload_n dX1_isMarked_18 rfl rfl ?_
      refine a_get (v := .int (M.2.2.1 a0 8)) dX1_isMarked_19 fl_1_59 ga2 gs3 rfl ?_
      refine a_icmp_ne 29 dX1_isMarked_22 (by decide) (fun c11 => ?_) (fun c11 => ?_)
      · replace h := ite_f c11 h
        refine a_iconst (v := 0) dX1_isMarked_29 (by decide) ?_
        exact a_zret dX1_isMarked_30 rfl rfl (hR _ _ h)
      · replace h := ite_t c11 h
        refine a_iconst (v := 1) dX1_isMarked_25 (by decide) ?_
        refine a_goto 30 dX1_isMarked_26 (by decide) ?_
        exact a_zret dX1_isMarked_30 rfl rfl (hR _ _ h)
noncomputable def b_X1_isMarked (n : Nat) (a0 : Nat) (x1 : Int32) (M : Mem) : Option (Int32 × Mem) := T_X1_isMarked_0 (fun v M => some (v, M)) none n a0 x1 M
set_option maxHeartbeats 4000000 in
set_option maxRecDepth 100000 in
theorem sb_X1_isMarked {X : Nat × (Nat → Int32)} {al : Bool} {n : Nat} {a0 : Nat} {x1 : Int32} {M : Mem} {v : Int32} {M1 : Mem} (h : b_X1_isMarked n a0 x1 M = some (v, M1)) : AE yX1_isMarked cX1_isMarked 2 (some .boolean) al n X [.ref a0, .int x1] M (some (.int v)) M1 := by
  refine AM.of false (by decide +kernel) (by intro h; cases h) (Nat.le_of_ble_eq_true rfl) ?_
  have h2 : T_X1_isMarked_0 (fun v2 M2 => some (v2, M2) = some (v, M1)) (none = some (v, M1)) n a0 x1 M := (n_X1_isMarked_0 (fun o => o = some (v, M1)) (fun v M => some (v, M)) none n a0 x1 M).mp h
  have h3 : ((none : Option (Int32 × Mem)) = some (v, M1)) = False := eq_false (by intro q; cases q)
  rw [h3] at h2
  exact w_X1_isMarked_0 (fun v2 M2 h => by cases h; exact ⟨rfl, rfl⟩) h2

noncomputable abbrev f_X1_isMarked := b_X1_isMarked
theorem s_X1_isMarked {X : Nat × (Nat → Int32)} {al : Bool} {n : Nat} {a0 : Nat} {x1 : Int32} {M : Mem} {v : Int32} {M1 : Mem} (h : f_X1_isMarked n a0 x1 M = some (v, M1)) : AE yX1_isMarked cX1_isMarked 2 (some .boolean) al n X [.ref a0, .int x1] M (some (.int v)) M1 := sb_X1_isMarked h
set_option maxHeartbeats 4000000 in
set_option maxRecDepth 100000 in
noncomputable def T_X5_spotOf_0.{u} {α : Sort u} (R : Int32 → Mem → α) (N : α) (n : Nat) (a0 : Nat) (x1 : Int32) (M : Mem) : α := gd (fO M a0 5) N (bnd (M.2.2.2.2 a0 1) N (fun r3 => bnd2 (cal n (fun n => f_X10_at n r3 x1 M)) N (fun v5 M6 => R v5 M6)))
set_option maxHeartbeats 4000000 in
set_option maxRecDepth 100000 in
theorem n_X5_spotOf_0.{u, v} {α : Sort u} {β : Sort v} (h : α → β) (R : Int32 → Mem → α) (N : α) (n : Nat) (a0 : Nat) (x1 : Int32) (M : Mem) : h (T_X5_spotOf_0 R N n a0 x1 M) = T_X5_spotOf_0 (fun v M => h (R v M)) (h N) n a0 x1 M := by
  simp only [T_X5_spotOf_0, nat_ite h, nat_gd h, nat_bnd h, nat_bnd2 h]
set_option maxHeartbeats 4000000 in
set_option maxRecDepth 100000 in
theorem w_X5_spotOf_0 {X : Nat × (Nat → Int32)} {al : Bool} {n : Nat} {Q : Option Value → Mem → Prop} {R : Int32 → Mem → Prop} (hR : ∀ v M, R v M → Q (some (.int v)) M) {a0 : Nat} {x1 : Int32} {M : Mem} (h : T_X5_spotOf_0 R False n a0 x1 M) : AW X (RX5, cX5_spotOf, 2, (some .int), false, al, n) 0 0 0 [(0, .ref a0), (1, .int x1)] [] M Q := by
  unfold T_X5_spotOf_0 at h
  refine a_aload_n dX5_spotOf_0 rfl rfl ?_
  obtain ⟨⟨ga1, gs2⟩, h⟩ := gd_t h
  obtain ⟨r3, e4, h⟩ := bnd_t h
  refine a_get (v := .ref r3) dX5_spotOf_1 fl_5_11 ga1 gs2 (gvR e4 rfl) ?_
  refine a_iload_n dX5_spotOf_4 rfl rfl ?_
  obtain ⟨v5, M6, e7, h⟩ := bnd2_t h
  obtain ⟨n8, en9, e7⟩ := cal_t e7
  refine e_callS (As := [.ref r3, .int x1]) (st := []) true dX5_spotOf_5 mw_X10_at (Or.inr ⟨rfl, mn_X5_71⟩) sm_X10_at rfl (Nat.le_of_ble_eq_true rfl) en9 (s_X10_at e7) ?_
  exact a_iret dX5_spotOf_8 rfl (hR _ _ h)
noncomputable def b_X5_spotOf (n : Nat) (a0 : Nat) (x1 : Int32) (M : Mem) : Option (Int32 × Mem) := T_X5_spotOf_0 (fun v M => some (v, M)) none n a0 x1 M
set_option maxHeartbeats 4000000 in
set_option maxRecDepth 100000 in
theorem sb_X5_spotOf {X : Nat × (Nat → Int32)} {al : Bool} {n : Nat} {a0 : Nat} {x1 : Int32} {M : Mem} {v : Int32} {M1 : Mem} (h : b_X5_spotOf n a0 x1 M = some (v, M1)) : AE yX5_spotOf cX5_spotOf 2 (some .int) al n X [.ref a0, .int x1] M (some (.int v)) M1 := by
  refine AM.of false (by decide +kernel) (by intro h; cases h) (Nat.le_of_ble_eq_true rfl) ?_
  have h2 : T_X5_spotOf_0 (fun v2 M2 => some (v2, M2) = some (v, M1)) (none = some (v, M1)) n a0 x1 M := (n_X5_spotOf_0 (fun o => o = some (v, M1)) (fun v M => some (v, M)) none n a0 x1 M).mp h
  have h3 : ((none : Option (Int32 × Mem)) = some (v, M1)) = False := eq_false (by intro q; cases q)
  rw [h3] at h2
  exact w_X5_spotOf_0 (fun v2 M2 h => by cases h; exact ⟨rfl, rfl⟩) h2

noncomputable abbrev f_X5_spotOf := b_X5_spotOf
theorem s_X5_spotOf {X : Nat × (Nat → Int32)} {al : Bool} {n : Nat} {a0 : Nat} {x1 : Int32} {M : Mem} {v : Int32} {M1 : Mem} (h : f_X5_spotOf n a0 x1 M = some (v, M1)) : AE yX5_spotOf cX5_spotOf 2 (some .int) al n X [.ref a0, .int x1] M (some (.int v)) M1 := sb_X5_spotOf h
def ix_X5_collect (c : Nat) : List Nat := if c = 0 then [0, 1, 2] else if c = 40 then [0, 3, 4] else []
def PW_X5_collect (X : Nat × (Nat → Int32)) (al : Bool) (n : Nat) (Q : Option Value → Mem → Prop) (c : Nat) (l : List Value) (M : Mem) : Prop := AW X (RX5, cX5_collect, 5, none, false, al, n) 0 0 c (List.zip (ix_X5_collect c) l) (l.drop (ix_X5_collect c).length) M Q
set_option maxHeartbeats 4000000 in
set_option maxRecDepth 100000 in
noncomputable def T_X5_collect_0.{u} {α : Sort u} (J : Nat → List Value → Mem → α) (R : Unit → Mem → α) (N : α) (n : Nat) (a0 : Nat) (a1 : Nat) (x2 : Int32) (M : Mem) : α := gd (fO M a0 5) N (bnd (M.2.2.2.2 a0 0) N (fun r3 => gd (fO M r3 1) N (bnd2 (cal n (fun n => f_X1_beginMarks n r3 M)) N (fun _ M7 => gd (fO M7 a0 5) N (bnd (M7.2.2.2.2 a0 0) N (fun r13 => gd (fO M7 a1 2) N (bnd2 (cal n (fun n => f_X2_markFormulas n a1 r13 M7)) N (fun _ M17 => gd (fO M17 a0 5) N (bnd (M17.2.2.2.2 a0 0) N (fun r23 => gd (fO M17 r23 1) N (bnd2 (cal n (fun n => f_X1_mark n r23 x2 M17)) N (fun v27 M28 => gd (fO M28 a0 5) N (bnd (M28.2.2.2.2 a0 0) N (fun r34 => gd (fO M28 r34 1) N (bnd2 (cal n (fun n => f_X1_markParts n r34 M28)) N (fun v38 M39 => gd (fO M39 a0 5) N (J 40 [.ref a0, .int v38, .int 0] (wI M39 a0 6 0))))))))))))))))))
set_option maxHeartbeats 4000000 in
set_option maxRecDepth 100000 in
theorem n_X5_collect_0.{u, v} {α : Sort u} {β : Sort v} (h : α → β) (J : Nat → List Value → Mem → α) (R : Unit → Mem → α) (N : α) (n : Nat) (a0 : Nat) (a1 : Nat) (x2 : Int32) (M : Mem) : h (T_X5_collect_0 J R N n a0 a1 x2 M) = T_X5_collect_0 (fun c l M => h (J c l M)) (fun v M => h (R v M)) (h N) n a0 a1 x2 M := by
  simp only [T_X5_collect_0, nat_ite h, nat_gd h, nat_bnd h, nat_bnd2 h]
set_option maxHeartbeats 4000000 in
set_option maxRecDepth 100000 in
theorem w_X5_collect_0 {X : Nat × (Nat → Int32)} {al : Bool} {n : Nat} {Q : Option Value → Mem → Prop} {J : Nat → List Value → Mem → Prop} (hJ : ∀ c l M, J c l M → PW_X5_collect X al n Q c l M) {R : Unit → Mem → Prop} (hR : ∀ v M, R v M → Q none M) {a0 : Nat} {a1 : Nat} {x2 : Int32} {M : Mem} (h : T_X5_collect_0 J R False n a0 a1 x2 M) : AW X (RX5, cX5_collect, 5, none, false, al, n) 0 0 0 [(0, .ref a0), (1, .ref a1), (2, .int x2)] [] M Q := by
  unfold T_X5_collect_0 at h
  refine a_aload_n dX5_collect_0 rfl rfl ?_
  obtain ⟨⟨ga1, gs2⟩, h⟩ := gd_t h
  obtain ⟨r3, e4, h⟩ := bnd_t h
  refine a_get (v := .ref r3) dX5_collect_1 fl_5_30 ga1 gs2 (gvR e4 rfl) ?_
  obtain ⟨⟨ga5, gs6⟩, h⟩ := gd_t h
  obtain ⟨_, M7, e8, h⟩ := bnd2_t h
  obtain ⟨n9, en10, e8⟩ := cal_t e8
  refine e_callV (As := []) (st := []) (a := r3) (ci := 1) false dX5_collect_4 mw_X1_beginMarks (Or.inl ⟨rfl, ml_X5_34⟩) im_X1_beginMarks se_X1_beginMarks (by decide) ga5 gs6 rfl (Nat.le_of_ble_eq_true rfl) en10 (s_X1_beginMarks e8) ?_
  refine a_aload_n dX5_collect_7 rfl rfl ?_
  refine a_aload_n dX5_collect_8 rfl rfl ?_
  obtain ⟨⟨ga11, gs12⟩, h⟩ := gd_t h
  obtain ⟨r13, e14, h⟩ := bnd_t h
  refine a_get (v := .ref r13) dX5_collect_9 fl_5_30 ga11 gs12 (gvR e14 rfl) ?_
  obtain ⟨⟨ga15, gs16⟩, h⟩ := gd_t h
  obtain ⟨_, M17, e18, h⟩ := bnd2_t h
  obtain ⟨n19, en20, e18⟩ := cal_t e18
  refine e_callV (As := [.ref r13]) (st := []) (a := a1) (ci := 2) false dX5_collect_12 mw_X2_markFormulas (Or.inl ⟨rfl, ml_X5_37⟩) im_X2_markFormulas se_X2_markFormulas (by decide) ga15 gs16 rfl (Nat.le_of_ble_eq_true rfl) en20 (s_X2_markFormulas e18) ?_
  refine a_aload_n dX5_collect_15 rfl rfl ?_
  obtain ⟨⟨ga21, gs22⟩, h⟩ := gd_t h
  obtain ⟨r23, e24, h⟩ := bnd_t h
  refine a_get (v := .ref r23) dX5_collect_16 fl_5_30 ga21 gs22 (gvR e24 rfl) ?_
  refine a_iload_n dX5_collect_19 rfl rfl ?_
  obtain ⟨⟨ga25, gs26⟩, h⟩ := gd_t h
  obtain ⟨v27, M28, e29, h⟩ := bnd2_t h
  obtain ⟨n30, en31, e29⟩ := cal_t e29
  refine e_callV (As := [.int x2]) (st := []) (a := r23) (ci := 1) false dX5_collect_20 mw_X1_mark (Or.inl ⟨rfl, ml_X5_43⟩) im_X1_mark se_X1_mark (by decide) ga25 gs26 rfl (Nat.le_of_ble_eq_true rfl) en31 (s_X1_mark e29) ?_
  refine a_pop dX5_collect_23 rfl ?_
  refine a_aload_n dX5_collect_24 rfl rfl ?_
  obtain ⟨⟨ga32, gs33⟩, h⟩ := gd_t h
  obtain ⟨r34, e35, h⟩ := bnd_t h
  refine a_get (v := .ref r34) dX5_collect_25 fl_5_30 ga32 gs33 (gvR e35 rfl) ?_
  obtain ⟨⟨ga36, gs37⟩, h⟩ := gd_t h
  obtain ⟨v38, M39, e40, h⟩ := bnd2_t h
  obtain ⟨n41, en42, e40⟩ := cal_t e40
  refine e_callV (As := []) (st := []) (a := r34) (ci := 1) false dX5_collect_28 mw_X1_markParts (Or.inl ⟨rfl, ml_X5_47⟩) im_X1_markParts se_X1_markParts (by decide) ga36 gs37 rfl (Nat.le_of_ble_eq_true rfl) en42 (s_X1_markParts e40) ?_
  refine a_istore_n dX5_collect_31 rfl (Nat.le_of_ble_eq_true rfl) (lv2 := [(3, .int v38), (0, .ref a0), (1, .ref a1), (2, .int x2)]) rfl ?_
  refine a_aload_n dX5_collect_32 rfl rfl ?_
  refine a_iconst (v := 0) dX5_collect_33 (by decide) ?_
  obtain ⟨⟨ga43, gs44⟩, h⟩ := gd_t h
  refine a_putI dX5_collect_34 (Or.inl ⟨fl_5_51, Or.inl rfl⟩) rfl ga43 gs44 rfl rfl ?_
  refine a_iconst (v := 0) dX5_collect_37 (by decide) ?_
  refine a_istore dX5_collect_38 (Nat.le_of_ble_eq_true rfl) (lv2 := [(4, .int 0), (3, .int v38), (0, .ref a0), (1, .ref a1), (2, .int x2)]) rfl ?_
  exact a_lv (lv2 := [(0, .ref a0), (3, .int v38), (4, .int 0)]) (fa_cons rfl (fa_cons rfl (fa_cons rfl fa_nil))) (hJ _ _ _ h)
set_option maxHeartbeats 4000000 in
set_option maxRecDepth 100000 in
noncomputable def T_X5_collect_40.{u} {α : Sort u} (J : Nat → List Value → Mem → α) (R : Unit → Mem → α) (N : α) (n : Nat) (a0 : Nat) (x3 : Int32) (x4 : Int32) (M : Mem) : α := if 5200 ≤ x4 then R () M else if x3 ≤ 0 then R () M else gd (fO M a0 5) N (if 420 ≤ (M.2.2.1 a0 6) then R () M else bnd (M.2.2.2.2 a0 0) N (fun r6 => gd (fO M r6 1) N (bnd2 (cal n (fun n => f_X1_isMarked n r6 x4 M)) N (fun v10 M11 => if v10 = 0 then J 40 [.ref a0, .int x3, .int (x4 + 1)] M11 else gd (fO M11 a0 5) N (bnd (M11.2.2.2.2 a0 1) N (fun r18 => gd (fA M11 r18 1 x4) N (bnd (M11.2.2.2.2 a0 2) N (fun r24 => bnd (M11.2.2.2.2 a0 0) N (fun r26 => gd (fO M11 r26 1) N (bnd2 (cal n (fun n => f_X1_kindOf n r26 x4 (wI M11 r18 (x4.toNatClampNeg) (M11.2.2.1 a0 6)))) N (fun v30 M31 => gd (fA M31 r24 1 ((wI M11 r18 (x4.toNatClampNeg) (M11.2.2.1 a0 6)).2.2.1 a0 6)) N (gd (fO M31 a0 5) N (bnd (M31.2.2.2.2 a0 3) N (fun r41 => bnd (M31.2.2.2.2 a0 0) N (fun r43 => gd (fO M31 r43 1) N (bnd2 (cal n (fun n => f_X1_leftOf n r43 x4 (wI M31 r24 (((wI M11 r18 (x4.toNatClampNeg) (M11.2.2.1 a0 6)).2.2.1 a0 6).toNatClampNeg) v30))) N (fun v47 M48 => gd (fO M48 a0 5) N (bnd2 (cal n (fun n => f_X5_spotOf n a0 v47 M48)) N (fun v54 M55 => gd (fA M55 r41 1 ((wI M31 r24 (((wI M11 r18 (x4.toNatClampNeg) (M11.2.2.1 a0 6)).2.2.1 a0 6).toNatClampNeg) v30).2.2.1 a0 6)) N (gd (fO M55 a0 5) N (bnd (M55.2.2.2.2 a0 4) N (fun r65 => bnd (M55.2.2.2.2 a0 0) N (fun r67 => gd (fO M55 r67 1) N (bnd2 (cal n (fun n => f_X1_rightOf n r67 x4 (wI M55 r41 (((wI M31 r24 (((wI M11 r18 (x4.toNatClampNeg) (M11.2.2.1 a0 6)).2.2.1 a0 6).toNatClampNeg) v30).2.2.1 a0 6).toNatClampNeg) v54))) N (fun v71 M72 => gd (fO M72 a0 5) N (bnd2 (cal n (fun n => f_X5_spotOf n a0 v71 M72)) N (fun v78 M79 => gd (fA M79 r65 1 ((wI M55 r41 (((wI M31 r24 (((wI M11 r18 (x4.toNatClampNeg) (M11.2.2.1 a0 6)).2.2.1 a0 6).toNatClampNeg) v30).2.2.1 a0 6).toNatClampNeg) v54).2.2.1 a0 6)) N (gd (fO M79 a0 5) N (J 40 [.ref a0, .int (x3 + (-1)), .int (x4 + 1)] (wI (wI M79 r65 (((wI M55 r41 (((wI M31 r24 (((wI M11 r18 (x4.toNatClampNeg) (M11.2.2.1 a0 6)).2.2.1 a0 6).toNatClampNeg) v30).2.2.1 a0 6).toNatClampNeg) v54).2.2.1 a0 6).toNatClampNeg) v78) a0 6 (((wI M79 r65 (((wI M55 r41 (((wI M31 r24 (((wI M11 r18 (x4.toNatClampNeg) (M11.2.2.1 a0 6)).2.2.1 a0 6).toNatClampNeg) v30).2.2.1 a0 6).toNatClampNeg) v54).2.2.1 a0 6).toNatClampNeg) v78).2.2.1 a0 6) + 1)))))))))))))))))))))))))))))))
set_option maxHeartbeats 4000000 in
set_option maxRecDepth 100000 in
theorem n_X5_collect_40.{u, v} {α : Sort u} {β : Sort v} (h : α → β) (J : Nat → List Value → Mem → α) (R : Unit → Mem → α) (N : α) (n : Nat) (a0 : Nat) (x3 : Int32) (x4 : Int32) (M : Mem) : h (T_X5_collect_40 J R N n a0 x3 x4 M) = T_X5_collect_40 (fun c l M => h (J c l M)) (fun v M => h (R v M)) (h N) n a0 x3 x4 M := by
  simp only [T_X5_collect_40, nat_ite h, nat_gd h, nat_bnd h, nat_bnd2 h]
set_option maxHeartbeats 4000000 in
set_option maxRecDepth 100000 in
theorem w_X5_collect_40 {X : Nat × (Nat → Int32)} {al : Bool} {n : Nat} {Q : Option Value → Mem → Prop} {J : Nat → List Value → Mem → Prop} (hJ : ∀ c l M, J c l M → PW_X5_collect X al n Q c l M) {R : Unit → Mem → Prop} (hR : ∀ v M, R v M → Q none M) {a0 : Nat} {x3 : Int32} {x4 : Int32} {M : Mem} (h : T_X5_collect_40 J R False n a0 x3 x4 M) : AW X (RX5, cX5_collect, 5, none, false, al, n) 0 0 40 [(0, .ref a0), (3, .int x3), (4, .int x4)] [] M Q := by
  unfold T_X5_collect_40 at h
  refine a_iload dX5_collect_40 rfl ?_
  refine a_sipush (v := 5200) dX5_collect_42 (by decide) ?_
  refine a_icmp_ge 166 dX5_collect_45 (by decide) (fun c1 => ?_) (fun c1 => ?_)
  · replace h := ite_t c1 h
    exact a_vret dX5_collect_166 rfl (hR _ _ h)
  · replace h := ite_f c1 h
    refine a_iload_n dX5_collect_48 rfl rfl ?_
    refine a_if_le 166 dX5_collect_49 (by decide) (fun c2 => ?_) (fun c2 => ?_)
    · replace h := ite_t c2 h
      exact a_vret dX5_collect_166 rfl (hR _ _ h)
    · replace h := ite_f c2 h
      refine a_aload_n dX5_collect_52 rfl rfl ?_
      obtain ⟨⟨ga3, gs4⟩, h⟩ := gd_t h
      refine a_get (v := .int (M.2.2.1 a0 6)) dX5_collect_53 fl_5_51 ga3 gs4 rfl ?_
      refine a_sipush (v := 420) dX5_collect_56 (by decide) ?_
      refine a_icmp_ge 166 dX5_collect_59 (by decide) (fun c5 => ?_) (fun c5 => ?_)
      · replace h := ite_t c5 h
        exact a_vret dX5_collect_166 rfl (hR _ _ h)
      · replace h := ite_f c5 h
        refine a_aload_n dX5_collect_62 rfl rfl ?_
        obtain ⟨r6, e7, h⟩ := bnd_t h
        refine a_get (v := .ref r6) dX5_collect_63 fl_5_30 ga3 gs4 (gvR e7 rfl) ?_
        refine a_iload dX5_collect_66 rfl ?_
        obtain ⟨⟨ga8, gs9⟩, h⟩ := gd_t h
        obtain ⟨v10, M11, e12, h⟩ := bnd2_t h
        obtain ⟨n13, en14, e12⟩ := cal_t e12
        refine e_callV (As := [.int x4]) (st := []) (a := r6) (ci := 1) false dX5_collect_68 mw_X1_isMarked (Or.inl ⟨rfl, ml_X5_55⟩) im_X1_isMarked se_X1_isMarked (by decide) ga8 gs9 rfl (Nat.le_of_ble_eq_true rfl) en14 (s_X1_isMarked e12) ?_
        refine a_if_eq 160 dX5_collect_71 (by decide) (fun c15 => ?_) (fun c15 => ?_)
        · replace h := ite_t c15 h
          refine a_iinc (v := (x4 + 1)) dX5_collect_160 rfl (by first | rfl | decide) (Nat.le_of_ble_eq_true rfl) (lv2 := [(4, .int (x4 + 1)), (0, .ref a0), (3, .int x3)]) rfl ?_
          refine a_goto 40 dX5_collect_163 (by decide) ?_
          exact a_lv (lv2 := [(0, .ref a0), (3, .int x3), (4, .int (x4 + 1))]) (fa_cons rfl (fa_cons rfl (fa_cons rfl fa_nil))) (hJ _ _ _ h)
        · replace h := ite_f c15 h
          refine a_aload_n dX5_collect_74 rfl rfl ?_
          obtain ⟨⟨ga16, gs17⟩, h⟩ := gd_t h
          obtain ⟨r18, e19, h⟩ := bnd_t h
          refine a_get (v := .ref r18) dX5_collect_75 fl_5_11 ga16 gs17 (gvR e19 rfl) ?_
          refine a_iload dX5_collect_78 rfl ?_
          refine a_aload_n dX5_collect_80 rfl rfl ?_
          refine a_get (v := .int (M11.2.2.1 a0 6)) dX5_collect_81 fl_5_51 ga16 gs17 rfl ?_
          obtain ⟨⟨ga20, gn21, gs22, gi23⟩, h⟩ := gd_t h
          refine a_iastore dX5_collect_84 ga20 gs22 gi23 ?_
          refine a_aload_n dX5_collect_85 rfl rfl ?_
          obtain ⟨r24, e25, h⟩ := bnd_t h
          refine a_get (v := .ref r24) dX5_collect_86 fl_5_17 ga16 gs17 (gvR e25 rfl) ?_
          refine a_aload_n dX5_collect_89 rfl rfl ?_
          refine a_get (v := .int ((wI M11 r18 (x4.toNatClampNeg) (M11.2.2.1 a0 6)).2.2.1 a0 6)) dX5_collect_90 fl_5_51 ga16 gs17 rfl ?_
          refine a_aload_n dX5_collect_93 rfl rfl ?_
          obtain ⟨r26, e27, h⟩ := bnd_t h
          refine a_get (v := .ref r26) dX5_collect_94 fl_5_30 ga16 gs17 (gvR e27 rfl) ?_
          refine a_iload dX5_collect_97 rfl ?_
          obtain ⟨⟨ga28, gs29⟩, h⟩ := gd_t h
          obtain ⟨v30, M31, e32, h⟩ := bnd2_t h
          obtain ⟨n33, en34, e32⟩ := cal_t e32
          refine e_callV (As := [.int x4]) (st := [.int ((wI M11 r18 (x4.toNatClampNeg) (M11.2.2.1 a0 6)).2.2.1 a0 6), .ref r24]) (a := r26) (ci := 1) false dX5_collect_99 mw_X1_kindOf (Or.inl ⟨rfl, ml_X5_58⟩) im_X1_kindOf se_X1_kindOf (by decide) ga28 gs29 rfl (Nat.le_of_ble_eq_true rfl) en34 (s_X1_kindOf e32) ?_
          obtain ⟨⟨ga35, gn36, gs37, gi38⟩, h⟩ := gd_t h
          refine a_iastore dX5_collect_102 ga35 gs37 gi38 ?_
          refine a_aload_n dX5_collect_103 rfl rfl ?_
          obtain ⟨⟨ga39, gs40⟩, h⟩ := gd_t h
          obtain ⟨r41, e42, h⟩ := bnd_t h
          refine a_get (v := .ref r41) dX5_collect_104 fl_5_20 ga39 gs40 (gvR e42 rfl) ?_
          refine a_aload_n dX5_collect_107 rfl rfl ?_
          refine a_get (v := .int ((wI M31 r24 (((wI M11 r18 (x4.toNatClampNeg) (M11.2.2.1 a0 6)).2.2.1 a0 6).toNatClampNeg) v30).2.2.1 a0 6)) dX5_collect_108 fl_5_51 ga39 gs40 rfl ?_
          refine a_aload_n dX5_collect_111 rfl rfl ?_
          refine a_aload_n dX5_collect_112 rfl rfl ?_
          obtain ⟨r43, e44, h⟩ := bnd_t h
          refine a_get (v := .ref r43) dX5_collect_113 fl_5_30 ga39 gs40 (gvR e44 rfl) ?_
          refine a_iload dX5_collect_116 rfl ?_
          obtain ⟨⟨ga45, gs46⟩, h⟩ := gd_t h
          obtain ⟨v47, M48, e49, h⟩ := bnd2_t h
          obtain ⟨n50, en51, e49⟩ := cal_t e49
          refine e_callV (As := [.int x4]) (st := [.ref a0, .int ((wI M31 r24 (((wI M11 r18 (x4.toNatClampNeg) (M11.2.2.1 a0 6)).2.2.1 a0 6).toNatClampNeg) v30).2.2.1 a0 6), .ref r41]) (a := r43) (ci := 1) false dX5_collect_118 mw_X1_leftOf (Or.inl ⟨rfl, ml_X5_62⟩) im_X1_leftOf se_X1_leftOf (by decide) ga45 gs46 rfl (Nat.le_of_ble_eq_true rfl) en51 (s_X1_leftOf e49) ?_
          obtain ⟨⟨ga52, gs53⟩, h⟩ := gd_t h
          obtain ⟨v54, M55, e56, h⟩ := bnd2_t h
          obtain ⟨n57, en58, e56⟩ := cal_t e56
          refine e_callV (As := [.int v47]) (st := [.int ((wI M31 r24 (((wI M11 r18 (x4.toNatClampNeg) (M11.2.2.1 a0 6)).2.2.1 a0 6).toNatClampNeg) v30).2.2.1 a0 6), .ref r41]) (a := a0) (ci := 5) false dX5_collect_121 mw_X5_spotOf (Or.inl ⟨rfl, ml_X5_65⟩) im_X5_spotOf se_X5_spotOf (by decide) ga52 gs53 rfl (Nat.le_of_ble_eq_true rfl) en58 (s_X5_spotOf e56) ?_
          obtain ⟨⟨ga59, gn60, gs61, gi62⟩, h⟩ := gd_t h
          refine a_iastore dX5_collect_124 ga59 gs61 gi62 ?_
          refine a_aload_n dX5_collect_125 rfl rfl ?_
          obtain ⟨⟨ga63, gs64⟩, h⟩ := gd_t h
          obtain ⟨r65, e66, h⟩ := bnd_t h
          refine a_get (v := .ref r65) dX5_collect_126 fl_5_23 ga63 gs64 (gvR e66 rfl) ?_
          refine a_aload_n dX5_collect_129 rfl rfl ?_
          refine a_get (v := .int ((wI M55 r41 (((wI M31 r24 (((wI M11 r18 (x4.toNatClampNeg) (M11.2.2.1 a0 6)).2.2.1 a0 6).toNatClampNeg) v30).2.2.1 a0 6).toNatClampNeg) v54).2.2.1 a0 6)) dX5_collect_130 fl_5_51 ga63 gs64 rfl ?_
          refine a_aload_n dX5_collect_133 rfl rfl ?_
          refine a_aload_n dX5_collect_134 rfl rfl ?_
          obtain ⟨r67, e68, h⟩ := bnd_t h
          refine a_get (v := .ref r67) dX5_collect_135 fl_5_30 ga63 gs64 (gvR e68 rfl) ?_
          refine a_iload dX5_collect_138 rfl ?_
          obtain ⟨⟨ga69, gs70⟩, h⟩ := gd_t h
          obtain ⟨v71, M72, e73, h⟩ := bnd2_t h
          obtain ⟨n74, en75, e73⟩ := cal_t e73
          refine e_callV (As := [.int x4]) (st := [.ref a0, .int ((wI M55 r41 (((wI M31 r24 (((wI M11 r18 (x4.toNatClampNeg) (M11.2.2.1 a0 6)).2.2.1 a0 6).toNatClampNeg) v30).2.2.1 a0 6).toNatClampNeg) v54).2.2.1 a0 6), .ref r65]) (a := r67) (ci := 1) false dX5_collect_140 mw_X1_rightOf (Or.inl ⟨rfl, ml_X5_68⟩) im_X1_rightOf se_X1_rightOf (by decide) ga69 gs70 rfl (Nat.le_of_ble_eq_true rfl) en75 (s_X1_rightOf e73) ?_
          obtain ⟨⟨ga76, gs77⟩, h⟩ := gd_t h
          obtain ⟨v78, M79, e80, h⟩ := bnd2_t h
          obtain ⟨n81, en82, e80⟩ := cal_t e80
          refine e_callV (As := [.int v71]) (st := [.int ((wI M55 r41 (((wI M31 r24 (((wI M11 r18 (x4.toNatClampNeg) (M11.2.2.1 a0 6)).2.2.1 a0 6).toNatClampNeg) v30).2.2.1 a0 6).toNatClampNeg) v54).2.2.1 a0 6), .ref r65]) (a := a0) (ci := 5) false dX5_collect_143 mw_X5_spotOf (Or.inl ⟨rfl, ml_X5_65⟩) im_X5_spotOf se_X5_spotOf (by decide) ga76 gs77 rfl (Nat.le_of_ble_eq_true rfl) en82 (s_X5_spotOf e80) ?_
          obtain ⟨⟨ga83, gn84, gs85, gi86⟩, h⟩ := gd_t h
          refine a_iastore dX5_collect_146 ga83 gs85 gi86 ?_
          refine a_aload_n dX5_collect_147 rfl rfl ?_
          refine a_dup dX5_collect_148 rfl ?_
          obtain ⟨⟨ga87, gs88⟩, h⟩ := gd_t h
          refine a_get (v := .int ((wI M79 r65 (((wI M55 r41 (((wI M31 r24 (((wI M11 r18 (x4.toNatClampNeg) (M11.2.2.1 a0 6)).2.2.1 a0 6).toNatClampNeg) v30).2.2.1 a0 6).toNatClampNeg) v54).2.2.1 a0 6).toNatClampNeg) v78).2.2.1 a0 6)) dX5_collect_149 fl_5_51 ga87 gs88 rfl ?_
          refine a_iconst (v := 1) dX5_collect_152 (by decide) ?_
          refine a_iadd dX5_collect_153 ?_
          refine a_putI dX5_collect_154 (Or.inl ⟨fl_5_51, Or.inl rfl⟩) rfl ga87 gs88 rfl rfl ?_
          refine a_iinc (v := (x3 + (-1))) dX5_collect_157 rfl (by first | rfl | decide) (Nat.le_of_ble_eq_true rfl) (lv2 := [(3, .int (x3 + (-1))), (0, .ref a0), (4, .int x4)]) rfl ?_
          refine a_iinc (v := (x4 + 1)) dX5_collect_160 rfl (by first | rfl | decide) (Nat.le_of_ble_eq_true rfl) (lv2 := [(4, .int (x4 + 1)), (3, .int (x3 + (-1))), (0, .ref a0)]) rfl ?_
          refine a_goto 40 dX5_collect_163 (by decide) ?_
          exact a_lv (lv2 := [(0, .ref a0), (3, .int (x3 + (-1))), (4, .int (x4 + 1))]) (fa_cons rfl (fa_cons rfl (fa_cons rfl fa_nil))) (hJ _ _ _ h)
set_option maxHeartbeats 4000000 in
set_option maxRecDepth 100000 in
noncomputable def st_X5_collect (n : Nat) (s : Sg) : Option (Sg ⊕ (Unit × Mem)) := if s.1 = 0 then vR s.2.1 none (fun a0 t => vR t none (fun a1 t => vI t none (fun x2 t => vE t none (T_X5_collect_0 (fun c l M => some (.inl (c, l, M))) (fun v M => some (.inr (v, M))) none n a0 a1 x2 s.2.2)))) else if s.1 = 40 then vR s.2.1 none (fun a0 t => vI t none (fun x3 t => vI t none (fun x4 t => vE t none (T_X5_collect_40 (fun c l M => some (.inl (c, l, M))) (fun v M => some (.inr (v, M))) none n a0 x3 x4 s.2.2)))) else none
noncomputable abbrev g_X5_collect_0 (n : Nat) (a0 : Nat) (a1 : Nat) (x2 : Int32) (M : Mem) : Option (Unit × Mem) := lp (st_X5_collect n) (0, [.ref a0, .ref a1, .int x2], M)
set_option maxHeartbeats 4000000 in
set_option maxRecDepth 100000 in
theorem ge_X5_collect_0 (n : Nat) (a0 : Nat) (a1 : Nat) (x2 : Int32) (M : Mem) : g_X5_collect_0 n a0 a1 x2 M = T_X5_collect_0 (fun c l M => lp (st_X5_collect n) (c, l, M)) (fun v M => some (v, M)) none n a0 a1 x2 M := (lp_eq _ _).trans (n_X5_collect_0 (lpK (st_X5_collect n)) (fun c l M => some (.inl (c, l, M))) (fun v M => some (.inr (v, M))) none n a0 a1 x2 M)
noncomputable abbrev g_X5_collect_40 (n : Nat) (a0 : Nat) (x3 : Int32) (x4 : Int32) (M : Mem) : Option (Unit × Mem) := lp (st_X5_collect n) (40, [.ref a0, .int x3, .int x4], M)
set_option maxHeartbeats 4000000 in
set_option maxRecDepth 100000 in
theorem ge_X5_collect_40 (n : Nat) (a0 : Nat) (x3 : Int32) (x4 : Int32) (M : Mem) : g_X5_collect_40 n a0 x3 x4 M = T_X5_collect_40 (fun c l M => lp (st_X5_collect n) (c, l, M)) (fun v M => some (v, M)) none n a0 x3 x4 M := (lp_eq _ _).trans (n_X5_collect_40 (lpK (st_X5_collect n)) (fun c l M => some (.inl (c, l, M))) (fun v M => some (.inr (v, M))) none n a0 x3 x4 M)
noncomputable def b_X5_collect (n : Nat) (a0 : Nat) (a1 : Nat) (x2 : Int32) (M : Mem) : Option (Unit × Mem) := g_X5_collect_0 n a0 a1 x2 M
set_option maxHeartbeats 4000000 in
set_option maxRecDepth 100000 in
theorem sb_X5_collect {X : Nat × (Nat → Int32)} {al : Bool} {n : Nat} {a0 : Nat} {a1 : Nat} {x2 : Int32} {M : Mem} {v : Unit} {M1 : Mem} (h : b_X5_collect n a0 a1 x2 M = some (v, M1)) : AE yX5_collect cX5_collect 5 none al n X [.ref a0, .ref a1, .int x2] M none M1 := by
  refine AM.of false (by decide +kernel) (by intro h; cases h) (Nat.le_of_ble_eq_true rfl) ?_
  refine lp_snd (P := fun s r => PW_X5_collect X al n (fun v M2 => v = none ∧ M2 = r.2) s.1 s.2.1 s.2.2) ?_ h
  clear h
  rintro ⟨c, l, M⟩ r h
  unfold st_X5_collect at h
  rcases ite_p h with ⟨e, h⟩ | ⟨e, h⟩
  · replace e : c = 0 := e
    subst e
    obtain ⟨a0, tt0, e, h⟩ := vR_p id h
    replace e : l = _ := e
    subst e
    obtain ⟨a1, tt1, e, h⟩ := vR_p id h
    replace e : tt0 = _ := e
    subst e
    obtain ⟨x2, tt2, e, h⟩ := vI_p id h
    replace e : tt1 = _ := e
    subst e
    obtain ⟨e, h⟩ := vE_p id h
    replace e : tt2 = [] := e
    subst e
    exact w_X5_collect_0 (J := fun c l M => PW_X5_collect X al n (fun v M2 => v = none ∧ M2 = r.2) c l M) (R := fun v M => (v, M) = r) (fun _ _ _ h => h) (fun v M h => by cases h; exact ⟨rfl, rfl⟩) ((n_X5_collect_0 (lpP (fun (s : Sg) (r : Unit × Mem) => PW_X5_collect X al n (fun v M2 => v = none ∧ M2 = r.2) s.1 s.2.1 s.2.2) r) (fun c l M => some (.inl (c, l, M))) (fun v M => some (.inr (v, M))) none n a0 a1 x2 M).mp h)
  rcases ite_p h with ⟨e, h⟩ | ⟨e, h⟩
  · replace e : c = 40 := e
    subst e
    obtain ⟨a0, tt0, e, h⟩ := vR_p id h
    replace e : l = _ := e
    subst e
    obtain ⟨x3, tt1, e, h⟩ := vI_p id h
    replace e : tt0 = _ := e
    subst e
    obtain ⟨x4, tt2, e, h⟩ := vI_p id h
    replace e : tt1 = _ := e
    subst e
    obtain ⟨e, h⟩ := vE_p id h
    replace e : tt2 = [] := e
    subst e
    exact w_X5_collect_40 (J := fun c l M => PW_X5_collect X al n (fun v M2 => v = none ∧ M2 = r.2) c l M) (R := fun v M => (v, M) = r) (fun _ _ _ h => h) (fun v M h => by cases h; exact ⟨rfl, rfl⟩) ((n_X5_collect_40 (lpP (fun (s : Sg) (r : Unit × Mem) => PW_X5_collect X al n (fun v M2 => v = none ∧ M2 = r.2) s.1 s.2.1 s.2.2) r) (fun c l M => some (.inl (c, l, M))) (fun v M => some (.inr (v, M))) none n a0 x3 x4 M).mp h)
  · exact h.elim

noncomputable abbrev f_X5_collect := b_X5_collect
theorem s_X5_collect {X : Nat × (Nat → Int32)} {al : Bool} {n : Nat} {a0 : Nat} {a1 : Nat} {x2 : Int32} {M : Mem} {v : Unit} {M1 : Mem} (h : f_X5_collect n a0 a1 x2 M = some (v, M1)) : AE yX5_collect cX5_collect 5 none al n X [.ref a0, .ref a1, .int x2] M none M1 := sb_X5_collect h
