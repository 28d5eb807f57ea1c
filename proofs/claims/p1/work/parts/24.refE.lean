set_option maxHeartbeats 4000000 in
set_option maxRecDepth 100000 in
theorem z2024_X11_nameHere {X : Nat × (Nat → Int32)} {fr : Nat} {M : Mem} (x : Int32) (hv_x : ¬ (x < 0 ∨ 4 ≤ x)) (h0 : Cm (up2 (up2 (up2 (up2 (up2 (up2 (up2 (up2 fs42 89 0 0) 89 24 0) 89 27 0) 89 28 0) 89 29 0) 89 30 0) 89 31 (-1)) 89 39 0) M) : AM yX11_nameHere cX11_nameHere 3 (some .int) true (fr + 10) 0 0 X [.ref 89] M (fun v M1 => v = some (.int 0) ∧ Cm (up2 (up2 (up2 (up2 (up2 (up2 (up2 (up2 fs42 89 0 0) 89 24 0) 89 27 0) 89 28 0) 89 29 0) 89 30 0) 89 31 (-1)) 89 39 0) M1) := by
  refine AM.of false (by decide +kernel) (by intro h; cases h) (Nat.le_of_ble_eq_true rfl) ?_
  show AW X (RX11, cX11_nameHere, 3, (some .int), false, true, fr + 10) 0 0 0 [(0, .ref 89)] [] M _
  refine a_aload_n dX11_nameHere_0 rfl rfl ?_
  refine a_callV (As := []) (st := []) (a := 89) (ci := 11) (bc := 0) (bs := 0) (mc := 0) (ms := 0) false dX11_nameHere_1 mw_X11_wordNext rfl (Or.inl ⟨rfl, ml_X11_204⟩) im_X11_wordNext se_X11_wordNext (by decide) (cm_l h0 (by decide)) (cm_s h0 (by decide) rfl) rfl (Nat.le_of_ble_eq_true rfl) (z2025_X11_wordNext (fr := fr) x hv_x h0) (fun v M1 hq => ?_)
  obtain ⟨rfl, h1⟩ := hq
  show AW X _ 0 0 4 _ [.int (-1)] _ _
  refine a_istore_n dX11_nameHere_4 rfl (Nat.le_of_ble_eq_true rfl) (lv2 := [(1, .int (-1)), (0, .ref 89)]) rfl ?_
  refine a_aload_n dX11_nameHere_5 rfl rfl ?_
  refine a_callV (As := []) (st := []) (a := 89) (ci := 11) (bc := 0) (bs := 0) (mc := 0) (ms := 0) false dX11_nameHere_6 mw_X11_lettersHere rfl (Or.inl ⟨rfl, ml_X11_184⟩) im_X11_lettersHere se_X11_lettersHere (by decide) (cm_l h1 (by decide)) (cm_s h1 (by decide) rfl) rfl (Nat.le_of_ble_eq_true rfl) (z2021_X11_lettersHere (fr := fr) x hv_x h1) (fun v M2 hq => ?_)
  obtain ⟨rfl, h2⟩ := hq
  show AW X _ 0 0 9 _ [.int 0] _ _
  refine a_istore_n dX11_nameHere_9 rfl (Nat.le_of_ble_eq_true rfl) (lv2 := [(2, .int 0), (1, .int (-1)), (0, .ref 89)]) rfl ?_
  refine a_iload_n dX11_nameHere_10 rfl rfl ?_
  refine a_i2l dX11_nameHere_11 ?_
  refine a_st (st2 := [.long 0]) (by first | decide +kernel | (refine congrArg (fun z => Value.int z :: []) ?_; decide +kernel) | (refine congrArg (fun z => Value.long z :: []) ?_; decide +kernel)) ?_
  refine a_lconst (v := 1) dX11_nameHere_12 (by decide) ?_
  refine a_ldc2 dX11_nameHere_13 co_X11_219 ?_
  refine a_callS (As := [.long 0, .long 1, .long 4]) (st := []) (bc := 0) (bs := 0) (mc := 0) (ms := 0) false dX11_nameHere_16 mw_X11_isIn rfl (Or.inl ⟨rfl, ml_X11_180⟩) sm_X11_isIn rfl (Nat.le_of_ble_eq_true rfl) (k_isIn (fr := fr + 9) 0 1 4) (fun v M1 hq => ?_)
  obtain ⟨rfl, hM1⟩ := hq
  rw [hM1]
  clear hM1 M1
  refine a_st (st2 := [.int 0]) (by first | decide +kernel | (refine congrArg (fun z => Value.int z :: []) ?_; decide +kernel) | (refine congrArg (fun z => Value.long z :: []) ?_; decide +kernel)) ?_
  refine a_if_eq 37 dX11_nameHere_19 (by decide) (fun _ => ?_) (fun c => absurd (by decide) c)
  refine a_iconst (v := 0) dX11_nameHere_37 (by decide) ?_
  exact a_iret dX11_nameHere_38 rfl ⟨rfl, h2⟩
set_option maxHeartbeats 4000000 in
set_option maxRecDepth 100000 in
theorem z2029_X11_fails {X : Nat × (Nat → Int32)} {fr : Nat} {M : Mem} (x : Int32) (hv_x : ¬ (x < 0 ∨ 4 ≤ x)) (h0 : Cm (up2 (up2 (up2 (up2 (up2 (up2 (up2 (up2 fs42 89 0 0) 89 24 0) 89 27 0) 89 28 0) 89 29 0) 89 30 0) 89 31 (-1)) 89 39 0) M) : AM yX11_fails cX11_fails 3 none true (fr + 10) 0 0 X [.ref 89, .int 1, .int 0] M (fun v M1 => v = none ∧ Cm (up2 (up2 (up2 (up2 (up2 (up2 (up2 (up2 (up2 (up2 fs42 89 0 0) 89 24 0) 89 27 0) 89 28 0) 89 29 0) 89 30 0) 89 31 (-1)) 89 39 0) 89 30 1) 89 31 0) M1) := by
  refine AM.of false (by decide +kernel) (by intro h; cases h) (Nat.le_of_ble_eq_true rfl) ?_
  show AW X (RX11, cX11_fails, 3, none, false, true, fr + 10) 0 0 0 [(0, .ref 89), (1, .int 1), (2, .int 0)] [] M _
  refine a_aload_n dX11_fails_0 rfl rfl ?_
  refine a_get (v := .int 0) dX11_fails_1 fl_11_163 (cm_l h0 (by decide)) (cm_s h0 (by decide) rfl) (cm_gi h0 rfl (by decide) (by first | decide +kernel | rfl)) ?_
  refine a_if_eq 8 dX11_fails_4 (by decide) (fun _ => ?_) (fun c => absurd (by decide) c)
  refine a_aload_n dX11_fails_8 rfl rfl ?_
  refine a_iload_n dX11_fails_9 rfl rfl ?_
  refine a_putI dX11_fails_10 (Or.inl ⟨fl_11_163, Or.inl rfl⟩) rfl (cm_l h0 (by decide)) (cm_s h0 (by decide) rfl) rfl rfl ?_
  have h1 : Cm (up2 (up2 (up2 (up2 (up2 (up2 (up2 (up2 (up2 fs42 89 0 0) 89 24 0) 89 27 0) 89 28 0) 89 29 0) 89 30 0) 89 31 (-1)) 89 39 0) 89 30 1) (wI M 89 30 1) := cm_I h0 (by decide)
  generalize (wI M 89 30 1) = M1 at h1 ⊢
  refine a_aload_n dX11_fails_13 rfl rfl ?_
  refine a_iload_n dX11_fails_14 rfl rfl ?_
  refine a_putI dX11_fails_15 (Or.inl ⟨fl_11_166, Or.inl rfl⟩) rfl (cm_l h1 (by decide)) (cm_s h1 (by decide) rfl) rfl rfl ?_
  have h2 : Cm (up2 (up2 (up2 (up2 (up2 (up2 (up2 (up2 (up2 (up2 fs42 89 0 0) 89 24 0) 89 27 0) 89 28 0) 89 29 0) 89 30 0) 89 31 (-1)) 89 39 0) 89 30 1) 89 31 0) (wI M1 89 31 0) := cm_I h1 (by decide)
  generalize (wI M1 89 31 0) = M2 at h2 ⊢
  exact a_vret dX11_fails_18 rfl ⟨rfl, h2⟩
set_option maxHeartbeats 4000000 in
set_option maxRecDepth 100000 in
theorem z2019_X11_readTerm {X : Nat × (Nat → Int32)} {fr : Nat} {M : Mem} (x : Int32) (hv_x : ¬ (x < 0 ∨ 4 ≤ x)) (h0 : Cm (up2 (up2 (up2 (up2 (up2 (up2 (up2 (up2 fs42 89 0 0) 89 24 0) 89 27 0) 89 28 0) 89 29 0) 89 30 0) 89 31 (-1)) 89 39 0) M) : AM yX11_readTerm cX11_readTerm 7 none true (fr + 11) 0 0 X [.ref 89] M (fun v M1 => v = none ∧ Cm (up2 (up2 (up2 (up2 (up2 (up2 (up2 (up2 (up2 (up2 fs42 89 0 0) 89 24 0) 89 27 0) 89 28 0) 89 29 0) 89 30 0) 89 31 (-1)) 89 39 0) 89 30 1) 89 31 0) M1) := by
  refine AM.of false (by decide +kernel) (by intro h; cases h) (Nat.le_of_ble_eq_true rfl) ?_
  show AW X (RX11, cX11_readTerm, 7, none, false, true, fr + 11) 0 0 0 [(0, .ref 89)] [] M _
  refine a_aload_n dX11_readTerm_0 rfl rfl ?_
  refine a_get (v := .int 0) dX11_readTerm_1 fl_11_163 (cm_l h0 (by decide)) (cm_s h0 (by decide) rfl) (cm_gi h0 rfl (by decide) (by first | decide +kernel | rfl)) ?_
  refine a_if_eq 8 dX11_readTerm_4 (by decide) (fun _ => ?_) (fun c => absurd (by decide) c)
  refine a_aload_n dX11_readTerm_8 rfl rfl ?_
  refine a_callV (As := []) (st := []) (a := 89) (ci := 11) (bc := 0) (bs := 0) (mc := 0) (ms := 0) false dX11_readTerm_9 mw_X11_wordNext rfl (Or.inl ⟨rfl, ml_X11_204⟩) im_X11_wordNext se_X11_wordNext (by decide) (cm_l h0 (by decide)) (cm_s h0 (by decide) rfl) rfl (Nat.le_of_ble_eq_true rfl) (z2020_X11_wordNext (fr := fr) x hv_x h0) (fun v M1 hq => ?_)
  obtain ⟨rfl, h1⟩ := hq
  show AW X _ 0 0 12 _ [.int (-1)] _ _
  refine a_istore_n dX11_readTerm_12 rfl (Nat.le_of_ble_eq_true rfl) (lv2 := [(1, .int (-1)), (0, .ref 89)]) rfl ?_
  refine a_aload_n dX11_readTerm_13 rfl rfl ?_
  refine a_get (v := .int 0) dX11_readTerm_14 fl_11_157 (cm_l h1 (by decide)) (cm_s h1 (by decide) rfl) (cm_gi h1 rfl (by decide) (by first | decide +kernel | rfl)) ?_
  refine a_istore_n dX11_readTerm_17 rfl (Nat.le_of_ble_eq_true rfl) (lv2 := [(2, .int 0), (1, .int (-1)), (0, .ref 89)]) rfl ?_
  refine a_aload_n dX11_readTerm_18 rfl rfl ?_
  refine a_callV (As := []) (st := []) (a := 89) (ci := 11) (bc := 0) (bs := 0) (mc := 0) (ms := 0) false dX11_readTerm_19 mw_X11_nameHere rfl (Or.inl ⟨rfl, ml_X11_221⟩) im_X11_nameHere se_X11_nameHere (by decide) (cm_l h1 (by decide)) (cm_s h1 (by decide) rfl) rfl (Nat.le_of_ble_eq_true rfl) (z2024_X11_nameHere (fr := fr) x hv_x h1) (fun v M2 hq => ?_)
  obtain ⟨rfl, h2⟩ := hq
  show AW X _ 0 0 22 _ [.int 0] _ _
  refine a_istore_n dX11_readTerm_22 rfl (Nat.le_of_ble_eq_true rfl) (lv2 := [(3, .int 0), (2, .int 0), (1, .int (-1)), (0, .ref 89)]) rfl ?_
  refine a_iload_n dX11_readTerm_23 rfl rfl ?_
  refine a_if_le 34 dX11_readTerm_24 (by decide) (fun _ => ?_) (fun c => absurd (by decide) c)
  refine a_iload_n dX11_readTerm_34 rfl rfl ?_
  refine a_i2l dX11_readTerm_35 ?_
  refine a_st (st2 := [.long (-1)]) (by first | decide +kernel | (refine congrArg (fun z => Value.int z :: []) ?_; decide +kernel) | (refine congrArg (fun z => Value.long z :: []) ?_; decide +kernel)) ?_
  refine a_ldc2 dX11_readTerm_36 co_X11_261 ?_
  refine a_ldc2 dX11_readTerm_39 co_X11_263 ?_
  refine a_callS (As := [.long (-1), .long 13, .long 21]) (st := []) (bc := 0) (bs := 0) (mc := 0) (ms := 0) false dX11_readTerm_42 mw_X11_isIn rfl (Or.inl ⟨rfl, ml_X11_180⟩) sm_X11_isIn rfl (Nat.le_of_ble_eq_true rfl) (k_isIn (fr := fr + 10) (-1) 13 21) (fun v M1 hq => ?_)
  obtain ⟨rfl, hM1⟩ := hq
  rw [hM1]
  clear hM1 M1
  refine a_st (st2 := [.int 0]) (by first | decide +kernel | (refine congrArg (fun z => Value.int z :: []) ?_; decide +kernel) | (refine congrArg (fun z => Value.long z :: []) ?_; decide +kernel)) ?_
  refine a_if_ne 55 dX11_readTerm_45 (by decide) (fun c => absurd (by decide) c) (fun _ => ?_)
  refine a_aload_n dX11_readTerm_48 rfl rfl ?_
  refine a_iconst (v := 1) dX11_readTerm_49 (by decide) ?_
  refine a_iload_n dX11_readTerm_50 rfl rfl ?_
  refine a_callV (As := [.int 1, .int 0]) (st := []) (a := 89) (ci := 11) (bc := 0) (bs := 0) (mc := 0) (ms := 0) false dX11_readTerm_51 mw_X11_fails rfl (Or.inl ⟨rfl, ml_X11_209⟩) im_X11_fails se_X11_fails (by decide) (cm_l h2 (by decide)) (cm_s h2 (by decide) rfl) rfl (Nat.le_of_ble_eq_true rfl) (z2029_X11_fails (fr := fr) x hv_x h2) (fun v M3 hq => ?_)
  obtain ⟨rfl, h3⟩ := hq
  exact a_vret dX11_readTerm_54 rfl ⟨rfl, h3⟩
set_option maxHeartbeats 4000000 in
set_option maxRecDepth 100000 in
theorem z2030_X11_settles {X : Nat × (Nat → Int32)} {fr : Nat} {M : Mem} (x : Int32) (hv_x : ¬ (x < 0 ∨ 4 ≤ x)) (h0 : Cm (up2 (up2 (up2 (up2 (up2 (up2 (up2 (up2 (up2 (up2 fs42 89 0 0) 89 24 0) 89 27 0) 89 28 0) 89 29 0) 89 30 0) 89 31 (-1)) 89 39 0) 89 30 1) 89 31 0) M) : AM yX11_settles cX11_settles 1 (some .int) true (fr + 11) 0 0 X [.ref 89] M (fun v M1 => v = some (.int 1) ∧ Cm (up2 (up2 (up2 (up2 (up2 (up2 (up2 (up2 (up2 (up2 (up2 (up2 fs42 89 0 0) 89 24 0) 89 27 0) 89 28 0) 89 29 0) 89 30 0) 89 31 (-1)) 89 39 0) 89 30 1) 89 31 0) 89 32 1) 89 33 0) M1) := by
  refine AM.of false (by decide +kernel) (by intro h; cases h) (Nat.le_of_ble_eq_true rfl) ?_
  show AW X (RX11, cX11_settles, 1, (some .int), false, true, fr + 11) 0 0 0 [(0, .ref 89)] [] M _
  refine a_aload_n dX11_settles_0 rfl rfl ?_
  refine a_aload_n dX11_settles_1 rfl rfl ?_
  refine a_get (v := .int 1) dX11_settles_2 fl_11_163 (cm_l h0 (by decide)) (cm_s h0 (by decide) rfl) (cm_gi h0 rfl (by decide) (by first | decide +kernel | rfl)) ?_
  refine a_putI dX11_settles_5 (Or.inl ⟨fl_11_201, Or.inl rfl⟩) rfl (cm_l h0 (by decide)) (cm_s h0 (by decide) rfl) rfl rfl ?_
  have h1 : Cm (up2 (up2 (up2 (up2 (up2 (up2 (up2 (up2 (up2 (up2 (up2 fs42 89 0 0) 89 24 0) 89 27 0) 89 28 0) 89 29 0) 89 30 0) 89 31 (-1)) 89 39 0) 89 30 1) 89 31 0) 89 32 1) (wI M 89 32 1) := cm_I h0 (by decide)
  generalize (wI M 89 32 1) = M1 at h1 ⊢
  refine a_aload_n dX11_settles_8 rfl rfl ?_
  refine a_aload_n dX11_settles_9 rfl rfl ?_
  refine a_get (v := .int 0) dX11_settles_10 fl_11_166 (cm_l h1 (by decide)) (cm_s h1 (by decide) rfl) (cm_gi h1 rfl (by decide) (by first | decide +kernel | rfl)) ?_
  refine a_putI dX11_settles_13 (Or.inl ⟨fl_11_75, Or.inl rfl⟩) rfl (cm_l h1 (by decide)) (cm_s h1 (by decide) rfl) rfl rfl ?_
  have h2 : Cm (up2 (up2 (up2 (up2 (up2 (up2 (up2 (up2 (up2 (up2 (up2 (up2 fs42 89 0 0) 89 24 0) 89 27 0) 89 28 0) 89 29 0) 89 30 0) 89 31 (-1)) 89 39 0) 89 30 1) 89 31 0) 89 32 1) 89 33 0) (wI M1 89 33 0) := cm_I h1 (by decide)
  generalize (wI M1 89 33 0) = M2 at h2 ⊢
  refine a_aload_n dX11_settles_16 rfl rfl ?_
  refine a_get (v := .int 1) dX11_settles_17 fl_11_163 (cm_l h2 (by decide)) (cm_s h2 (by decide) rfl) (cm_gi h2 rfl (by decide) (by first | decide +kernel | rfl)) ?_
  exact a_iret dX11_settles_20 rfl ⟨rfl, h2⟩
set_option maxHeartbeats 4000000 in
set_option maxRecDepth 100000 in
theorem q_proof_0 {X : Nat × (Nat → Int32)} {fr : Nat} {M : Mem} (x : Int32) (hv_x : ¬ (x < 0 ∨ 4 ≤ x)) (h0 : Cm fs42 M) : AM yX11_proof cX11_proof 3 (some .int) true (fr + 12) 0 0 X [.ref 89, .int x, .int 0] M (fun v M1 => v = some (.int (-31)) ∧ True) := by
  refine AM.of false (by decide +kernel) (by intro h; cases h) (Nat.le_of_ble_eq_true rfl) ?_
  show AW X (RX11, cX11_proof, 3, (some .int), false, true, fr + 12) 0 0 0 [(0, .ref 89), (1, .int x), (2, .int 0)] [] M _
  refine a_aload_n dX11_proof_0 rfl rfl ?_
  refine a_iconst (v := 0) dX11_proof_1 (by decide) ?_
  refine a_putI dX11_proof_2 (Or.inl ⟨fl_11_1, Or.inl rfl⟩) rfl (cm_l h0 (by decide)) (cm_s h0 (by decide) rfl) rfl rfl ?_
  have h1 : Cm (up2 fs42 89 0 0) (wI M 89 0 0) := cm_I h0 (by decide)
  generalize (wI M 89 0 0) = M1 at h1 ⊢
  refine a_iload_n dX11_proof_5 rfl rfl ?_
  refine a_callS (As := [.int x]) (st := []) (bc := 0) (bs := 0) (mc := 0) (ms := 0) false dX11_proof_6 mw_X11_isSlot rfl (Or.inl ⟨rfl, ml_X11_271⟩) sm_X11_isSlot rfl (Nat.le_of_ble_eq_true rfl) (z2016_X11_isSlot (fr := fr) x hv_x h1) (fun v M2 hq => ?_)
  obtain ⟨rfl, h2⟩ := hq
  show AW X _ 0 0 9 _ [.int 1] _ _
  refine a_if_ne 15 dX11_proof_9 (by decide) (fun _ => ?_) (fun c => absurd c (by decide))
  refine a_iload_n dX11_proof_15 rfl rfl ?_
  refine a_i2l dX11_proof_16 ?_
  refine a_st (st2 := [.long 0]) (by first | decide +kernel | (refine congrArg (fun z => Value.int z :: []) ?_; decide +kernel) | (refine congrArg (fun z => Value.long z :: []) ?_; decide +kernel)) ?_
  refine a_lconst (v := 0) dX11_proof_17 (by decide) ?_
  refine a_aload_n dX11_proof_18 rfl rfl ?_
  refine a_get (v := .int 0) dX11_proof_19 fl_11_154 (cm_l h2 (by decide)) (cm_s h2 (by decide) rfl) (cm_gi h2 rfl (by decide) (by first | decide +kernel | rfl)) ?_
  refine a_i2l dX11_proof_22 ?_
  refine a_st (st2 := [.long 0, .long 0, .long 0]) (by first | decide +kernel | (refine congrArg (fun z => Value.int z :: [.long 0, .long 0]) ?_; decide +kernel) | (refine congrArg (fun z => Value.long z :: [.long 0, .long 0]) ?_; decide +kernel)) ?_
  refine a_callS (As := [.long 0, .long 0, .long 0]) (st := []) (bc := 0) (bs := 0) (mc := 0) (ms := 0) false dX11_proof_23 mw_X11_isIn rfl (Or.inl ⟨rfl, ml_X11_180⟩) sm_X11_isIn rfl (Nat.le_of_ble_eq_true rfl) (k_isIn (fr := fr + 11) 0 0 0) (fun v M1 hq => ?_)
  obtain ⟨rfl, hM1⟩ := hq
  rw [hM1]
  clear hM1 M1
  refine a_st (st2 := [.int 1]) (by first | decide +kernel | (refine congrArg (fun z => Value.int z :: []) ?_; decide +kernel) | (refine congrArg (fun z => Value.long z :: []) ?_; decide +kernel)) ?_
  refine a_if_ne 32 dX11_proof_26 (by decide) (fun _ => ?_) (fun c => absurd c (by decide))
  refine a_aload_n dX11_proof_32 rfl rfl ?_
  refine a_iconst (v := 0) dX11_proof_33 (by decide) ?_
  refine a_putI dX11_proof_34 (Or.inl ⟨fl_11_151, Or.inl rfl⟩) rfl (cm_l h2 (by decide)) (cm_s h2 (by decide) rfl) rfl rfl ?_
  have h3 : Cm (up2 (up2 fs42 89 0 0) 89 24 0) (wI M2 89 24 0) := cm_I h2 (by decide)
  generalize (wI M2 89 24 0) = M3 at h3 ⊢
  refine a_aload_n dX11_proof_37 rfl rfl ?_
  refine a_iload_n dX11_proof_38 rfl rfl ?_
  refine a_callV (As := [.int 0]) (st := []) (a := 89) (ci := 11) (bc := 0) (bs := 0) (mc := 0) (ms := 0) false dX11_proof_39 mw_X11_begins rfl (Or.inl ⟨rfl, ml_X11_234⟩) im_X11_begins se_X11_begins (by decide) (cm_l h3 (by decide)) (cm_s h3 (by decide) rfl) rfl (Nat.le_of_ble_eq_true rfl) (z2017_X11_begins (fr := fr) x hv_x h3) (fun v M4 hq => ?_)
  obtain ⟨rfl, h4⟩ := hq
  refine a_aload_n dX11_proof_42 rfl rfl ?_
  refine a_iconst (v := 0) dX11_proof_43 (by decide) ?_
  refine a_putI dX11_proof_44 (Or.inl ⟨fl_11_247, Or.inl rfl⟩) rfl (cm_l h4 (by decide)) (cm_s h4 (by decide) rfl) rfl rfl ?_
  have h5 : Cm (up2 (up2 (up2 (up2 (up2 (up2 (up2 (up2 fs42 89 0 0) 89 24 0) 89 27 0) 89 28 0) 89 29 0) 89 30 0) 89 31 (-1)) 89 39 0) (wI M4 89 39 0) := cm_I h4 (by decide)
  generalize (wI M4 89 39 0) = M5 at h5 ⊢
  refine a_aload_n dX11_proof_47 rfl rfl ?_
  refine a_callV (As := []) (st := []) (a := 89) (ci := 11) (bc := 0) (bs := 0) (mc := 0) (ms := 0) false dX11_proof_48 mw_X11_readTerm rfl (Or.inl ⟨rfl, ml_X11_268⟩) im_X11_readTerm se_X11_readTerm (by decide) (cm_l h5 (by decide)) (cm_s h5 (by decide) rfl) rfl (Nat.le_of_ble_eq_true rfl) (z2019_X11_readTerm (fr := fr) x hv_x h5) (fun v M6 hq => ?_)
  obtain ⟨rfl, h6⟩ := hq
  refine a_aload_n dX11_proof_51 rfl rfl ?_
  refine a_get (v := .int 1) dX11_proof_52 fl_11_163 (cm_l h6 (by decide)) (cm_s h6 (by decide) rfl) (cm_gi h6 rfl (by decide) (by first | decide +kernel | rfl)) ?_
  refine a_if_ne 74 dX11_proof_55 (by decide) (fun _ => ?_) (fun c => absurd c (by decide))
  refine a_aload_n dX11_proof_74 rfl rfl ?_
  refine a_get (v := .int 1) dX11_proof_75 fl_11_163 (cm_l h6 (by decide)) (cm_s h6 (by decide) rfl) (cm_gi h6 rfl (by decide) (by first | decide +kernel | rfl)) ?_
  refine a_if_ne 86 dX11_proof_78 (by decide) (fun _ => ?_) (fun c => absurd c (by decide))
  refine a_aload_n dX11_proof_86 rfl rfl ?_
  refine a_callV (As := []) (st := []) (a := 89) (ci := 11) (bc := 0) (bs := 0) (mc := 0) (ms := 0) false dX11_proof_87 mw_X11_settles rfl (Or.inl ⟨rfl, ml_X11_244⟩) im_X11_settles se_X11_settles (by decide) (cm_l h6 (by decide)) (cm_s h6 (by decide) rfl) rfl (Nat.le_of_ble_eq_true rfl) (z2030_X11_settles (fr := fr) x hv_x h6) (fun v M7 hq => ?_)
  obtain ⟨rfl, h7⟩ := hq
  show AW X _ 0 0 90 _ [.int 1] _ _
  refine a_if_eq 101 dX11_proof_90 (by decide) (fun c => absurd c (by decide)) (fun _ => ?_)
  refine a_bipush (v := (-30)) dX11_proof_93 (by decide) ?_
  refine a_aload_n dX11_proof_95 rfl rfl ?_
  refine a_get (v := .int 1) dX11_proof_96 fl_11_163 (cm_l h7 (by decide)) (cm_s h7 (by decide) rfl) (cm_gi h7 rfl (by decide) (by first | decide +kernel | rfl)) ?_
  refine a_isub dX11_proof_99 ?_
  refine a_st (st2 := [.int (-31)]) (by first | decide +kernel | (refine congrArg (fun z => Value.int z :: []) ?_; decide +kernel) | (refine congrArg (fun z => Value.long z :: []) ?_; decide +kernel)) ?_
  exact a_iret dX11_proof_100 rfl ⟨by first | rfl | decide +kernel | simp [*], trivial⟩
set_option maxHeartbeats 4000000 in
set_option maxRecDepth 100000 in
theorem z2031_X11_isSlot {X : Nat × (Nat → Int32)} {fr : Nat} {M : Mem} (x : Int32) (hv_x : ¬ (x < 0 ∨ 4 ≤ x)) (n : Int32) (hn : n < 0) (h0 : Cm (up2 fs42 89 0 0) M) : AM yX11_isSlot cX11_isSlot 1 (some .boolean) true (fr + 11) 0 0 X [.int x] M (fun v M1 => v = some (.int 1) ∧ Cm (up2 fs42 89 0 0) M1) := by
  refine AM.of false (by decide +kernel) (by intro h; cases h) (Nat.le_of_ble_eq_true rfl) ?_
  show AW X (RX11, cX11_isSlot, 1, (some .boolean), false, true, fr + 11) 0 0 0 [(0, .int x)] [] M _
  refine a_iload_n dX11_isSlot_0 rfl rfl ?_
  refine a_i2l dX11_isSlot_1 ?_
  refine a_lconst (v := 0) dX11_isSlot_2 (by decide) ?_
  refine a_ldc2 dX11_isSlot_3 co_X11_281 ?_
  refine a_callS (As := [.long (Int32.toInt64 x), .long 0, .long 3]) (st := []) (bc := 0) (bs := 0) (mc := 0) (ms := 0) false dX11_isSlot_6 mw_X11_isIn rfl (Or.inl ⟨rfl, ml_X11_180⟩) sm_X11_isIn rfl (Nat.le_of_ble_eq_true rfl) (k_isIn (fr := fr + 10) (Int32.toInt64 x) 0 3) (fun v M1 hq => ?_)
  obtain ⟨rfl, hM1⟩ := hq
  rw [hM1]
  clear hM1 M1
  refine a_st (st2 := [.int 1]) (by exact congrArg (fun z => Value.int z :: []) ((isin_s x).trans (if_neg hv_x))) ?_
  exact a_zret dX11_isSlot_9 rfl (by first | decide | (split <;> rfl)) ⟨rfl, h0⟩
set_option maxHeartbeats 4000000 in
set_option maxRecDepth 100000 in
theorem q_proof_n {X : Nat × (Nat → Int32)} {fr : Nat} {M : Mem} (x : Int32) (hv_x : ¬ (x < 0 ∨ 4 ≤ x)) (n : Int32) (hn : n < 0) (h0 : Cm fs42 M) : AM yX11_proof cX11_proof 3 (some .int) true (fr + 12) 0 0 X [.ref 89, .int x, .int n] M (fun v M1 => v = some (.int (-3)) ∧ True) := by
  refine AM.of false (by decide +kernel) (by intro h; cases h) (Nat.le_of_ble_eq_true rfl) ?_
  show AW X (RX11, cX11_proof, 3, (some .int), false, true, fr + 12) 0 0 0 [(0, .ref 89), (1, .int x), (2, .int n)] [] M _
  refine a_aload_n dX11_proof_0 rfl rfl ?_
  refine a_iconst (v := 0) dX11_proof_1 (by decide) ?_
  refine a_putI dX11_proof_2 (Or.inl ⟨fl_11_1, Or.inl rfl⟩) rfl (cm_l h0 (by decide)) (cm_s h0 (by decide) rfl) rfl rfl ?_
  have h1 : Cm (up2 fs42 89 0 0) (wI M 89 0 0) := cm_I h0 (by decide)
  generalize (wI M 89 0 0) = M1 at h1 ⊢
  refine a_iload_n dX11_proof_5 rfl rfl ?_
  refine a_callS (As := [.int x]) (st := []) (bc := 0) (bs := 0) (mc := 0) (ms := 0) false dX11_proof_6 mw_X11_isSlot rfl (Or.inl ⟨rfl, ml_X11_271⟩) sm_X11_isSlot rfl (Nat.le_of_ble_eq_true rfl) (z2031_X11_isSlot (fr := fr) x hv_x n hn h1) (fun v M2 hq => ?_)
  obtain ⟨rfl, h2⟩ := hq
  show AW X _ 0 0 9 _ [.int 1] _ _
  refine a_if_ne 15 dX11_proof_9 (by decide) (fun _ => ?_) (fun c => absurd c (by decide))
  refine a_iload_n dX11_proof_15 rfl rfl ?_
  refine a_i2l dX11_proof_16 ?_
  refine a_lconst (v := 0) dX11_proof_17 (by decide) ?_
  refine a_aload_n dX11_proof_18 rfl rfl ?_
  refine a_get (v := .int 0) dX11_proof_19 fl_11_154 (cm_l h2 (by decide)) (cm_s h2 (by decide) rfl) (cm_gi h2 rfl (by decide) (by first | decide +kernel | rfl)) ?_
  refine a_i2l dX11_proof_22 ?_
  refine a_st (st2 := [.long 0, .long 0, .long (Int32.toInt64 n)]) (by first | decide +kernel | (refine congrArg (fun z => Value.int z :: [.long 0, .long (Int32.toInt64 n)]) ?_; decide +kernel) | (refine congrArg (fun z => Value.long z :: [.long 0, .long (Int32.toInt64 n)]) ?_; decide +kernel)) ?_
  refine a_callS (As := [.long (Int32.toInt64 n), .long 0, .long 0]) (st := []) (bc := 0) (bs := 0) (mc := 0) (ms := 0) false dX11_proof_23 mw_X11_isIn rfl (Or.inl ⟨rfl, ml_X11_180⟩) sm_X11_isIn rfl (Nat.le_of_ble_eq_true rfl) (k_isIn (fr := fr + 11) (Int32.toInt64 n) 0 0) (fun v M1 hq => ?_)
  obtain ⟨rfl, hM1⟩ := hq
  rw [hM1]
  clear hM1 M1
  refine a_st (st2 := [.int 0]) (by exact congrArg (fun z => Value.int z :: []) (isin_n hn)) ?_
  refine a_if_ne 32 dX11_proof_26 (by decide) (fun c => absurd (by decide) c) (fun _ => ?_)
  refine a_bipush (v := (-3)) dX11_proof_29 (by decide) ?_
  exact a_iret dX11_proof_31 rfl ⟨by first | rfl | decide +kernel | simp [*], trivial⟩
set_option maxHeartbeats 4000000 in
set_option maxRecDepth 100000 in
theorem z2032_X11_isSlot {X : Nat × (Nat → Int32)} {fr : Nat} {M : Mem} (x : Int32) (hv_x : ¬ (x < 0 ∨ 4 ≤ x)) (n : Int32) (hn : 0 < n) (h0 : Cm (up2 fs42 89 0 0) M) : AM yX11_isSlot cX11_isSlot 1 (some .boolean) true (fr + 11) 0 0 X [.int x] M (fun v M1 => v = some (.int 1) ∧ Cm (up2 fs42 89 0 0) M1) := by
  refine AM.of false (by decide +kernel) (by intro h; cases h) (Nat.le_of_ble_eq_true rfl) ?_
  show AW X (RX11, cX11_isSlot, 1, (some .boolean), false, true, fr + 11) 0 0 0 [(0, .int x)] [] M _
  refine a_iload_n dX11_isSlot_0 rfl rfl ?_
  refine a_i2l dX11_isSlot_1 ?_
  refine a_lconst (v := 0) dX11_isSlot_2 (by decide) ?_
  refine a_ldc2 dX11_isSlot_3 co_X11_281 ?_
  refine a_callS (As := [.long (Int32.toInt64 x), .long 0, .long 3]) (st := []) (bc := 0) (bs := 0) (mc := 0) (ms := 0) false dX11_isSlot_6 mw_X11_isIn rfl (Or.inl ⟨rfl, ml_X11_180⟩) sm_X11_isIn rfl (Nat.le_of_ble_eq_true rfl) (k_isIn (fr := fr + 10) (Int32.toInt64 x) 0 3) (fun v M1 hq => ?_)
  obtain ⟨rfl, hM1⟩ := hq
  rw [hM1]
  clear hM1 M1
  refine a_st (st2 := [.int 1]) (by exact congrArg (fun z => Value.int z :: []) ((isin_s x).trans (if_neg hv_x))) ?_
  exact a_zret dX11_isSlot_9 rfl (by first | decide | (split <;> rfl)) ⟨rfl, h0⟩
set_option maxHeartbeats 4000000 in
set_option maxRecDepth 100000 in
theorem q_proof_p {X : Nat × (Nat → Int32)} {fr : Nat} {M : Mem} (x : Int32) (hv_x : ¬ (x < 0 ∨ 4 ≤ x)) (n : Int32) (hn : 0 < n) (h0 : Cm fs42 M) : AM yX11_proof cX11_proof 3 (some .int) true (fr + 12) 0 0 X [.ref 89, .int x, .int n] M (fun v M1 => v = some (.int (-3)) ∧ True) := by
  refine AM.of false (by decide +kernel) (by intro h; cases h) (Nat.le_of_ble_eq_true rfl) ?_
  show AW X (RX11, cX11_proof, 3, (some .int), false, true, fr + 12) 0 0 0 [(0, .ref 89), (1, .int x), (2, .int n)] [] M _
  refine a_aload_n dX11_proof_0 rfl rfl ?_
  refine a_iconst (v := 0) dX11_proof_1 (by decide) ?_
  refine a_putI dX11_proof_2 (Or.inl ⟨fl_11_1, Or.inl rfl⟩) rfl (cm_l h0 (by decide)) (cm_s h0 (by decide) rfl) rfl rfl ?_
  have h1 : Cm (up2 fs42 89 0 0) (wI M 89 0 0) := cm_I h0 (by decide)
  generalize (wI M 89 0 0) = M1 at h1 ⊢
  refine a_iload_n dX11_proof_5 rfl rfl ?_
  refine a_callS (As := [.int x]) (st := []) (bc := 0) (bs := 0) (mc := 0) (ms := 0) false dX11_proof_6 mw_X11_isSlot rfl (Or.inl ⟨rfl, ml_X11_271⟩) sm_X11_isSlot rfl (Nat.le_of_ble_eq_true rfl) (z2032_X11_isSlot (fr := fr) x hv_x n hn h1) (fun v M2 hq => ?_)
  obtain ⟨rfl, h2⟩ := hq
  show AW X _ 0 0 9 _ [.int 1] _ _
  refine a_if_ne 15 dX11_proof_9 (by decide) (fun _ => ?_) (fun c => absurd c (by decide))
  refine a_iload_n dX11_proof_15 rfl rfl ?_
  refine a_i2l dX11_proof_16 ?_
  refine a_lconst (v := 0) dX11_proof_17 (by decide) ?_
  refine a_aload_n dX11_proof_18 rfl rfl ?_
  refine a_get (v := .int 0) dX11_proof_19 fl_11_154 (cm_l h2 (by decide)) (cm_s h2 (by decide) rfl) (cm_gi h2 rfl (by decide) (by first | decide +kernel | rfl)) ?_
  refine a_i2l dX11_proof_22 ?_
  refine a_st (st2 := [.long 0, .long 0, .long (Int32.toInt64 n)]) (by first | decide +kernel | (refine congrArg (fun z => Value.int z :: [.long 0, .long (Int32.toInt64 n)]) ?_; decide +kernel) | (refine congrArg (fun z => Value.long z :: [.long 0, .long (Int32.toInt64 n)]) ?_; decide +kernel)) ?_
  refine a_callS (As := [.long (Int32.toInt64 n), .long 0, .long 0]) (st := []) (bc := 0) (bs := 0) (mc := 0) (ms := 0) false dX11_proof_23 mw_X11_isIn rfl (Or.inl ⟨rfl, ml_X11_180⟩) sm_X11_isIn rfl (Nat.le_of_ble_eq_true rfl) (k_isIn (fr := fr + 11) (Int32.toInt64 n) 0 0) (fun v M1 hq => ?_)
  obtain ⟨rfl, hM1⟩ := hq
  rw [hM1]
  clear hM1 M1
  refine a_st (st2 := [.int 0]) (by exact congrArg (fun z => Value.int z :: []) (isin_p hn)) ?_
  refine a_if_ne 32 dX11_proof_26 (by decide) (fun c => absurd (by decide) c) (fun _ => ?_)
  refine a_bipush (v := (-3)) dX11_proof_29 (by decide) ?_
  exact a_iret dX11_proof_31 rfl ⟨by first | rfl | decide +kernel | simp [*], trivial⟩
set_option maxHeartbeats 4000000 in
set_option maxRecDepth 100000 in
theorem z2033_X11_isSlot {X : Nat × (Nat → Int32)} {fr : Nat} {M : Mem} (x : Int32) (n : Int32) (hb_x : x < 0 ∨ 4 ≤ x) (h0 : Cm (up2 fs42 89 0 0) M) : AM yX11_isSlot cX11_isSlot 1 (some .boolean) true (fr + 11) 0 0 X [.int x] M (fun v M1 => v = some (.int 0) ∧ Cm (up2 fs42 89 0 0) M1) := by
  refine AM.of false (by decide +kernel) (by intro h; cases h) (Nat.le_of_ble_eq_true rfl) ?_
  show AW X (RX11, cX11_isSlot, 1, (some .boolean), false, true, fr + 11) 0 0 0 [(0, .int x)] [] M _
  refine a_iload_n dX11_isSlot_0 rfl rfl ?_
  refine a_i2l dX11_isSlot_1 ?_
  refine a_lconst (v := 0) dX11_isSlot_2 (by decide) ?_
  refine a_ldc2 dX11_isSlot_3 co_X11_281 ?_
  refine a_callS (As := [.long (Int32.toInt64 x), .long 0, .long 3]) (st := []) (bc := 0) (bs := 0) (mc := 0) (ms := 0) false dX11_isSlot_6 mw_X11_isIn rfl (Or.inl ⟨rfl, ml_X11_180⟩) sm_X11_isIn rfl (Nat.le_of_ble_eq_true rfl) (k_isIn (fr := fr + 10) (Int32.toInt64 x) 0 3) (fun v M1 hq => ?_)
  obtain ⟨rfl, hM1⟩ := hq
  rw [hM1]
  clear hM1 M1
  refine a_st (st2 := [.int 0]) (by exact congrArg (fun z => Value.int z :: []) ((isin_s x).trans (if_pos hb_x))) ?_
  exact a_zret dX11_isSlot_9 rfl (by first | decide | (split <;> rfl)) ⟨rfl, h0⟩
set_option maxHeartbeats 4000000 in
set_option maxRecDepth 100000 in
theorem q_proof_b {X : Nat × (Nat → Int32)} {fr : Nat} {M : Mem} (x : Int32) (n : Int32) (hb_x : x < 0 ∨ 4 ≤ x) (h0 : Cm fs42 M) : AM yX11_proof cX11_proof 3 (some .int) true (fr + 12) 0 0 X [.ref 89, .int x, .int n] M (fun v M1 => v = some (.int (-2)) ∧ True) := by
  refine AM.of false (by decide +kernel) (by intro h; cases h) (Nat.le_of_ble_eq_true rfl) ?_
  show AW X (RX11, cX11_proof, 3, (some .int), false, true, fr + 12) 0 0 0 [(0, .ref 89), (1, .int x), (2, .int n)] [] M _
  refine a_aload_n dX11_proof_0 rfl rfl ?_
  refine a_iconst (v := 0) dX11_proof_1 (by decide) ?_
  refine a_putI dX11_proof_2 (Or.inl ⟨fl_11_1, Or.inl rfl⟩) rfl (cm_l h0 (by decide)) (cm_s h0 (by decide) rfl) rfl rfl ?_
  have h1 : Cm (up2 fs42 89 0 0) (wI M 89 0 0) := cm_I h0 (by decide)
  generalize (wI M 89 0 0) = M1 at h1 ⊢
  refine a_iload_n dX11_proof_5 rfl rfl ?_
  refine a_callS (As := [.int x]) (st := []) (bc := 0) (bs := 0) (mc := 0) (ms := 0) false dX11_proof_6 mw_X11_isSlot rfl (Or.inl ⟨rfl, ml_X11_271⟩) sm_X11_isSlot rfl (Nat.le_of_ble_eq_true rfl) (z2033_X11_isSlot (fr := fr) x n hb_x h1) (fun v M2 hq => ?_)
  obtain ⟨rfl, h2⟩ := hq
  show AW X _ 0 0 9 _ [.int 0] _ _
  refine a_if_ne 15 dX11_proof_9 (by decide) (fun c => absurd (by decide) c) (fun _ => ?_)
  refine a_bipush (v := (-2)) dX11_proof_12 (by decide) ?_
  exact a_iret dX11_proof_14 rfl ⟨by first | rfl | decide +kernel | simp [*], trivial⟩
set_option maxHeartbeats 4000000 in
set_option maxRecDepth 100000 in
theorem q_fault {X : Nat × (Nat → Int32)} {fr : Nat} {M : Mem} (w : Int32) (h0 : Cm fs42 M) : AM yX11_fault cX11_fault 2 (some .int) true (fr + 12) 0 0 X [.ref 89, .int w] M (fun v M1 => v = some (.int (if w = 0 then 0 else -1)) ∧ True) := by
  refine AM.of false (by decide +kernel) (by intro h; cases h) (Nat.le_of_ble_eq_true rfl) ?_
  show AW X (RX11, cX11_fault, 2, (some .int), false, true, fr + 12) 0 0 0 [(0, .ref 89), (1, .int w)] [] M _
  refine a_aload_n dX11_fault_0 rfl rfl ?_
  refine a_iconst (v := 0) dX11_fault_1 (by decide) ?_
  refine a_putI dX11_fault_2 (Or.inl ⟨fl_11_1, Or.inl rfl⟩) rfl (cm_l h0 (by decide)) (cm_s h0 (by decide) rfl) rfl rfl ?_
  have h1 : Cm (up2 fs42 89 0 0) (wI M 89 0 0) := cm_I h0 (by decide)
  generalize (wI M 89 0 0) = M1 at h1 ⊢
  refine a_iload_n dX11_fault_5 rfl rfl ?_
  refine a_if_ne 16 dX11_fault_6 (by decide) (fun c2 => ?_) (fun c2 => ?_)
  · refine a_iload_n dX11_fault_16 rfl rfl ?_
    refine a_iconst (v := 1) dX11_fault_17 (by decide) ?_
    refine a_icmp_ne 28 dX11_fault_18 (by decide) (fun c3 => ?_) (fun c3 => ?_)
    · refine a_iconst (v := (-1)) dX11_fault_28 (by decide) ?_
      exact a_iret dX11_fault_29 rfl ⟨by solve | rfl | (repeat (first | rw [if_pos (by assumption)] | rw [if_neg (by assumption)])) | simp_all, trivial⟩
    · refine a_aload_n dX11_fault_21 rfl rfl ?_
      refine a_get (v := .int (-1)) dX11_fault_22 fl_11_75 (cm_l h1 (by decide)) (cm_s h1 (by decide) rfl) (cm_gi h1 rfl (by decide) (by first | decide +kernel | rfl)) ?_
      refine a_goto 29 dX11_fault_25 (by decide) ?_
      exact a_iret dX11_fault_29 rfl ⟨by solve | rfl | (repeat (first | rw [if_pos (by assumption)] | rw [if_neg (by assumption)])) | simp_all, trivial⟩
  · refine a_aload_n dX11_fault_9 rfl rfl ?_
    refine a_get (v := .int 0) dX11_fault_10 fl_11_201 (cm_l h1 (by decide)) (cm_s h1 (by decide) rfl) (cm_gi h1 rfl (by decide) (by first | decide +kernel | rfl)) ?_
    refine a_goto 29 dX11_fault_13 (by decide) ?_
    exact a_iret dX11_fault_29 rfl ⟨by solve | rfl | (repeat (first | rw [if_pos (by assumption)] | rw [if_neg (by assumption)])) | simp_all, trivial⟩
set_option maxHeartbeats 4000000 in
set_option maxRecDepth 100000 in
theorem z2034_X11_isSlot {X : Nat × (Nat → Int32)} {fr : Nat} {M : Mem} (x : Int32) (hb_x : x < 0 ∨ 4 ≤ x) (h0 : Cm (up2 fs42 89 0 0) M) : AM yX11_isSlot cX11_isSlot 1 (some .boolean) true (fr + 11) 0 0 X [.int x] M (fun v M1 => v = some (.int 0) ∧ Cm (up2 fs42 89 0 0) M1) := by
  refine AM.of false (by decide +kernel) (by intro h; cases h) (Nat.le_of_ble_eq_true rfl) ?_
  show AW X (RX11, cX11_isSlot, 1, (some .boolean), false, true, fr + 11) 0 0 0 [(0, .int x)] [] M _
  refine a_iload_n dX11_isSlot_0 rfl rfl ?_
  refine a_i2l dX11_isSlot_1 ?_
  refine a_lconst (v := 0) dX11_isSlot_2 (by decide) ?_
  refine a_ldc2 dX11_isSlot_3 co_X11_281 ?_
  refine a_callS (As := [.long (Int32.toInt64 x), .long 0, .long 3]) (st := []) (bc := 0) (bs := 0) (mc := 0) (ms := 0) false dX11_isSlot_6 mw_X11_isIn rfl (Or.inl ⟨rfl, ml_X11_180⟩) sm_X11_isIn rfl (Nat.le_of_ble_eq_true rfl) (k_isIn (fr := fr + 10) (Int32.toInt64 x) 0 3) (fun v M1 hq => ?_)
  obtain ⟨rfl, hM1⟩ := hq
  rw [hM1]
  clear hM1 M1
  refine a_st (st2 := [.int 0]) (by exact congrArg (fun z => Value.int z :: []) ((isin_s x).trans (if_pos hb_x))) ?_
  exact a_zret dX11_isSlot_9 rfl (by first | decide | (split <;> rfl)) ⟨rfl, h0⟩
set_option maxHeartbeats 4000000 in
set_option maxRecDepth 100000 in
theorem q_drop_b {X : Nat × (Nat → Int32)} {fr : Nat} {M : Mem} (x : Int32) (hb_x : x < 0 ∨ 4 ≤ x) (h0 : Cm fs42 M) : AM yX11_drop cX11_drop 3 (some .int) true (fr + 12) 0 0 X [.ref 89, .int x] M (fun v M1 => v = some (.int (-2)) ∧ True) := by
  refine AM.of false (by decide +kernel) (by intro h; cases h) (Nat.le_of_ble_eq_true rfl) ?_
  show AW X (RX11, cX11_drop, 3, (some .int), false, true, fr + 12) 0 0 0 [(0, .ref 89), (1, .int x)] [] M _
  refine a_aload_n dX11_drop_0 rfl rfl ?_
  refine a_iconst (v := 0) dX11_drop_1 (by decide) ?_
  refine a_putI dX11_drop_2 (Or.inl ⟨fl_11_1, Or.inl rfl⟩) rfl (cm_l h0 (by decide)) (cm_s h0 (by decide) rfl) rfl rfl ?_
  have h1 : Cm (up2 fs42 89 0 0) (wI M 89 0 0) := cm_I h0 (by decide)
  generalize (wI M 89 0 0) = M1 at h1 ⊢
  refine a_iload_n dX11_drop_5 rfl rfl ?_
  refine a_callS (As := [.int x]) (st := []) (bc := 0) (bs := 0) (mc := 0) (ms := 0) false dX11_drop_6 mw_X11_isSlot rfl (Or.inl ⟨rfl, ml_X11_271⟩) sm_X11_isSlot rfl (Nat.le_of_ble_eq_true rfl) (z2034_X11_isSlot (fr := fr) x hb_x h1) (fun v M2 hq => ?_)
  obtain ⟨rfl, h2⟩ := hq
  show AW X _ 0 0 9 _ [.int 0] _ _
  refine a_if_ne 15 dX11_drop_9 (by decide) (fun c => absurd (by decide) c) (fun _ => ?_)
  refine a_bipush (v := (-2)) dX11_drop_12 (by decide) ?_
  exact a_iret dX11_drop_14 rfl ⟨by first | rfl | decide +kernel | simp [*], trivial⟩
set_option maxHeartbeats 4000000 in
set_option maxRecDepth 100000 in
theorem z2035_X11_isSlot {X : Nat × (Nat → Int32)} {fr : Nat} {M : Mem}  (h0 : Cm (up2 fs42 89 0 0) M) : AM yX11_isSlot cX11_isSlot 1 (some .boolean) true (fr + 11) 0 0 X [.int 0] M (fun v M1 => v = some (.int 1) ∧ Cm (up2 fs42 89 0 0) M1) := by
  refine AM.of false (by decide +kernel) (by intro h; cases h) (Nat.le_of_ble_eq_true rfl) ?_
  show AW X (RX11, cX11_isSlot, 1, (some .boolean), false, true, fr + 11) 0 0 0 [(0, .int 0)] [] M _
  refine a_iload_n dX11_isSlot_0 rfl rfl ?_
  refine a_i2l dX11_isSlot_1 ?_
  refine a_st (st2 := [.long 0]) (by first | decide +kernel | (refine congrArg (fun z => Value.int z :: []) ?_; decide +kernel) | (refine congrArg (fun z => Value.long z :: []) ?_; decide +kernel)) ?_
  refine a_lconst (v := 0) dX11_isSlot_2 (by decide) ?_
  refine a_ldc2 dX11_isSlot_3 co_X11_281 ?_
  refine a_callS (As := [.long 0, .long 0, .long 3]) (st := []) (bc := 0) (bs := 0) (mc := 0) (ms := 0) false dX11_isSlot_6 mw_X11_isIn rfl (Or.inl ⟨rfl, ml_X11_180⟩) sm_X11_isIn rfl (Nat.le_of_ble_eq_true rfl) (k_isIn (fr := fr + 10) 0 0 3) (fun v M1 hq => ?_)
  obtain ⟨rfl, hM1⟩ := hq
  rw [hM1]
  clear hM1 M1
  refine a_st (st2 := [.int 1]) (by first | decide +kernel | (refine congrArg (fun z => Value.int z :: []) ?_; decide +kernel) | (refine congrArg (fun z => Value.long z :: []) ?_; decide +kernel)) ?_
  exact a_zret dX11_isSlot_9 rfl (by first | decide | (split <;> rfl)) ⟨rfl, h0⟩
set_option maxHeartbeats 4000000 in
set_option maxRecDepth 100000 in
theorem q_drop_0 {X : Nat × (Nat → Int32)} {fr : Nat} {M : Mem}  (h0 : Cm fs42 M) : AM yX11_drop cX11_drop 3 (some .int) true (fr + 12) 0 0 X [.ref 89, .int 0] M (fun v M1 => v = some (.int 0) ∧ True) := by
  refine AM.of false (by decide +kernel) (by intro h; cases h) (Nat.le_of_ble_eq_true rfl) ?_
  show AW X (RX11, cX11_drop, 3, (some .int), false, true, fr + 12) 0 0 0 [(0, .ref 89), (1, .int 0)] [] M _
  refine a_aload_n dX11_drop_0 rfl rfl ?_
  refine a_iconst (v := 0) dX11_drop_1 (by decide) ?_
  refine a_putI dX11_drop_2 (Or.inl ⟨fl_11_1, Or.inl rfl⟩) rfl (cm_l h0 (by decide)) (cm_s h0 (by decide) rfl) rfl rfl ?_
  have h1 : Cm (up2 fs42 89 0 0) (wI M 89 0 0) := cm_I h0 (by decide)
  generalize (wI M 89 0 0) = M1 at h1 ⊢
  refine a_iload_n dX11_drop_5 rfl rfl ?_
  refine a_callS (As := [.int 0]) (st := []) (bc := 0) (bs := 0) (mc := 0) (ms := 0) false dX11_drop_6 mw_X11_isSlot rfl (Or.inl ⟨rfl, ml_X11_271⟩) sm_X11_isSlot rfl (Nat.le_of_ble_eq_true rfl) (z2035_X11_isSlot (fr := fr)  h1) (fun v M2 hq => ?_)
  obtain ⟨rfl, h2⟩ := hq
  show AW X _ 0 0 9 _ [.int 1] _ _
  refine a_if_ne 15 dX11_drop_9 (by decide) (fun _ => ?_) (fun c => absurd c (by decide))
  refine a_aload_n dX11_drop_15 rfl rfl ?_
  refine a_get (v := .ref 104) dX11_drop_16 fl_11_56 (cm_l h2 (by decide)) (cm_s h2 (by decide) rfl) (cm_g h2 rfl (by decide +kernel)) ?_
  refine a_iload_n dX11_drop_19 rfl rfl ?_
  refine a_iaload dX11_drop_20 (cm_l h2 (by decide)) (cm_s h2 (by decide) rfl) (by unfold vp_in; decide +kernel) ?_
  rw [show M2.2.2.1 104 (Int32.toNatClampNeg 0) = 0 from (cm_i h2 (by decide)).trans (by first | decide +kernel | rfl)]
  refine a_istore_n dX11_drop_21 rfl (Nat.le_of_ble_eq_true rfl) (lv2 := [(2, .int 0), (0, .ref 89), (1, .int 0)]) rfl ?_
  refine a_aload_n dX11_drop_22 rfl rfl ?_
  refine a_get (v := .ref 104) dX11_drop_23 fl_11_56 (cm_l h2 (by decide)) (cm_s h2 (by decide) rfl) (cm_g h2 rfl (by decide +kernel)) ?_
  refine a_iload_n dX11_drop_26 rfl rfl ?_
  refine a_iconst (v := 0) dX11_drop_27 (by decide) ?_
  refine a_iastore dX11_drop_28 (cm_l h2 (by decide)) (cm_s h2 (by decide) rfl) (by unfold vp_in; decide +kernel) ?_
  rw [show Int32.toNatClampNeg 0 = 0 from by decide +kernel]
  have h3 : Cm (up2 (up2 fs42 89 0 0) 104 0 0) (wI M2 104 0 0) := cm_I h2 (by decide)
  generalize (wI M2 104 0 0) = M3 at h3 ⊢
  refine a_iload_n dX11_drop_29 rfl rfl ?_
  exact a_iret dX11_drop_30 rfl ⟨by first | rfl | decide +kernel | simp [*], trivial⟩
set_option maxHeartbeats 4000000 in
set_option maxRecDepth 100000 in
theorem z2036_X11_isSlot {X : Nat × (Nat → Int32)} {fr : Nat} {M : Mem}  (h0 : Cm (up2 fs42 89 0 0) M) : AM yX11_isSlot cX11_isSlot 1 (some .boolean) true (fr + 11) 0 0 X [.int 1] M (fun v M1 => v = some (.int 1) ∧ Cm (up2 fs42 89 0 0) M1) := by
  refine AM.of false (by decide +kernel) (by intro h; cases h) (Nat.le_of_ble_eq_true rfl) ?_
  show AW X (RX11, cX11_isSlot, 1, (some .boolean), false, true, fr + 11) 0 0 0 [(0, .int 1)] [] M _
  refine a_iload_n dX11_isSlot_0 rfl rfl ?_
  refine a_i2l dX11_isSlot_1 ?_
  refine a_st (st2 := [.long 1]) (by first | decide +kernel | (refine congrArg (fun z => Value.int z :: []) ?_; decide +kernel) | (refine congrArg (fun z => Value.long z :: []) ?_; decide +kernel)) ?_
  refine a_lconst (v := 0) dX11_isSlot_2 (by decide) ?_
  refine a_ldc2 dX11_isSlot_3 co_X11_281 ?_
  refine a_callS (As := [.long 1, .long 0, .long 3]) (st := []) (bc := 0) (bs := 0) (mc := 0) (ms := 0) false dX11_isSlot_6 mw_X11_isIn rfl (Or.inl ⟨rfl, ml_X11_180⟩) sm_X11_isIn rfl (Nat.le_of_ble_eq_true rfl) (k_isIn (fr := fr + 10) 1 0 3) (fun v M1 hq => ?_)
  obtain ⟨rfl, hM1⟩ := hq
  rw [hM1]
  clear hM1 M1
  refine a_st (st2 := [.int 1]) (by first | decide +kernel | (refine congrArg (fun z => Value.int z :: []) ?_; decide +kernel) | (refine congrArg (fun z => Value.long z :: []) ?_; decide +kernel)) ?_
  exact a_zret dX11_isSlot_9 rfl (by first | decide | (split <;> rfl)) ⟨rfl, h0⟩
set_option maxHeartbeats 4000000 in
set_option maxRecDepth 100000 in
theorem q_drop_1 {X : Nat × (Nat → Int32)} {fr : Nat} {M : Mem}  (h0 : Cm fs42 M) : AM yX11_drop cX11_drop 3 (some .int) true (fr + 12) 0 0 X [.ref 89, .int 1] M (fun v M1 => v = some (.int 0) ∧ True) := by
  refine AM.of false (by decide +kernel) (by intro h; cases h) (Nat.le_of_ble_eq_true rfl) ?_
  show AW X (RX11, cX11_drop, 3, (some .int), false, true, fr + 12) 0 0 0 [(0, .ref 89), (1, .int 1)] [] M _
  refine a_aload_n dX11_drop_0 rfl rfl ?_
  refine a_iconst (v := 0) dX11_drop_1 (by decide) ?_
  refine a_putI dX11_drop_2 (Or.inl ⟨fl_11_1, Or.inl rfl⟩) rfl (cm_l h0 (by decide)) (cm_s h0 (by decide) rfl) rfl rfl ?_
  have h1 : Cm (up2 fs42 89 0 0) (wI M 89 0 0) := cm_I h0 (by decide)
  generalize (wI M 89 0 0) = M1 at h1 ⊢
  refine a_iload_n dX11_drop_5 rfl rfl ?_
  refine a_callS (As := [.int 1]) (st := []) (bc := 0) (bs := 0) (mc := 0) (ms := 0) false dX11_drop_6 mw_X11_isSlot rfl (Or.inl ⟨rfl, ml_X11_271⟩) sm_X11_isSlot rfl (Nat.le_of_ble_eq_true rfl) (z2036_X11_isSlot (fr := fr)  h1) (fun v M2 hq => ?_)
  obtain ⟨rfl, h2⟩ := hq
  show AW X _ 0 0 9 _ [.int 1] _ _
  refine a_if_ne 15 dX11_drop_9 (by decide) (fun _ => ?_) (fun c => absurd c (by decide))
  refine a_aload_n dX11_drop_15 rfl rfl ?_
  refine a_get (v := .ref 104) dX11_drop_16 fl_11_56 (cm_l h2 (by decide)) (cm_s h2 (by decide) rfl) (cm_g h2 rfl (by decide +kernel)) ?_
  refine a_iload_n dX11_drop_19 rfl rfl ?_
  refine a_iaload dX11_drop_20 (cm_l h2 (by decide)) (cm_s h2 (by decide) rfl) (by unfold vp_in; decide +kernel) ?_
  rw [show M2.2.2.1 104 (Int32.toNatClampNeg 1) = 0 from (cm_i h2 (by decide)).trans (by first | decide +kernel | rfl)]
  refine a_istore_n dX11_drop_21 rfl (Nat.le_of_ble_eq_true rfl) (lv2 := [(2, .int 0), (0, .ref 89), (1, .int 1)]) rfl ?_
  refine a_aload_n dX11_drop_22 rfl rfl ?_
  refine a_get (v := .ref 104) dX11_drop_23 fl_11_56 (cm_l h2 (by decide)) (cm_s h2 (by decide) rfl) (cm_g h2 rfl (by decide +kernel)) ?_
  refine a_iload_n dX11_drop_26 rfl rfl ?_
  refine a_iconst (v := 0) dX11_drop_27 (by decide) ?_
  refine a_iastore dX11_drop_28 (cm_l h2 (by decide)) (cm_s h2 (by decide) rfl) (by unfold vp_in; decide +kernel) ?_
  rw [show Int32.toNatClampNeg 1 = 1 from by decide +kernel]
  have h3 : Cm (up2 (up2 fs42 89 0 0) 104 1 0) (wI M2 104 1 0) := cm_I h2 (by decide)
  generalize (wI M2 104 1 0) = M3 at h3 ⊢
  refine a_iload_n dX11_drop_29 rfl rfl ?_
  exact a_iret dX11_drop_30 rfl ⟨by first | rfl | decide +kernel | simp [*], trivial⟩
set_option maxHeartbeats 4000000 in
set_option maxRecDepth 100000 in
theorem z2037_X11_isSlot {X : Nat × (Nat → Int32)} {fr : Nat} {M : Mem}  (h0 : Cm (up2 fs42 89 0 0) M) : AM yX11_isSlot cX11_isSlot 1 (some .boolean) true (fr + 11) 0 0 X [.int 2] M (fun v M1 => v = some (.int 1) ∧ Cm (up2 fs42 89 0 0) M1) := by
  refine AM.of false (by decide +kernel) (by intro h; cases h) (Nat.le_of_ble_eq_true rfl) ?_
  show AW X (RX11, cX11_isSlot, 1, (some .boolean), false, true, fr + 11) 0 0 0 [(0, .int 2)] [] M _
  refine a_iload_n dX11_isSlot_0 rfl rfl ?_
  refine a_i2l dX11_isSlot_1 ?_
  refine a_st (st2 := [.long 2]) (by first | decide +kernel | (refine congrArg (fun z => Value.int z :: []) ?_; decide +kernel) | (refine congrArg (fun z => Value.long z :: []) ?_; decide +kernel)) ?_
  refine a_lconst (v := 0) dX11_isSlot_2 (by decide) ?_
  refine a_ldc2 dX11_isSlot_3 co_X11_281 ?_
  refine a_callS (As := [.long 2, .long 0, .long 3]) (st := []) (bc := 0) (bs := 0) (mc := 0) (ms := 0) false dX11_isSlot_6 mw_X11_isIn rfl (Or.inl ⟨rfl, ml_X11_180⟩) sm_X11_isIn rfl (Nat.le_of_ble_eq_true rfl) (k_isIn (fr := fr + 10) 2 0 3) (fun v M1 hq => ?_)
  obtain ⟨rfl, hM1⟩ := hq
  rw [hM1]
  clear hM1 M1
  refine a_st (st2 := [.int 1]) (by first | decide +kernel | (refine congrArg (fun z => Value.int z :: []) ?_; decide +kernel) | (refine congrArg (fun z => Value.long z :: []) ?_; decide +kernel)) ?_
  exact a_zret dX11_isSlot_9 rfl (by first | decide | (split <;> rfl)) ⟨rfl, h0⟩
set_option maxHeartbeats 4000000 in
set_option maxRecDepth 100000 in
theorem q_drop_2 {X : Nat × (Nat → Int32)} {fr : Nat} {M : Mem}  (h0 : Cm fs42 M) : AM yX11_drop cX11_drop 3 (some .int) true (fr + 12) 0 0 X [.ref 89, .int 2] M (fun v M1 => v = some (.int 0) ∧ True) := by
  refine AM.of false (by decide +kernel) (by intro h; cases h) (Nat.le_of_ble_eq_true rfl) ?_
  show AW X (RX11, cX11_drop, 3, (some .int), false, true, fr + 12) 0 0 0 [(0, .ref 89), (1, .int 2)] [] M _
  refine a_aload_n dX11_drop_0 rfl rfl ?_
  refine a_iconst (v := 0) dX11_drop_1 (by decide) ?_
  refine a_putI dX11_drop_2 (Or.inl ⟨fl_11_1, Or.inl rfl⟩) rfl (cm_l h0 (by decide)) (cm_s h0 (by decide) rfl) rfl rfl ?_
  have h1 : Cm (up2 fs42 89 0 0) (wI M 89 0 0) := cm_I h0 (by decide)
  generalize (wI M 89 0 0) = M1 at h1 ⊢
  refine a_iload_n dX11_drop_5 rfl rfl ?_
  refine a_callS (As := [.int 2]) (st := []) (bc := 0) (bs := 0) (mc := 0) (ms := 0) false dX11_drop_6 mw_X11_isSlot rfl (Or.inl ⟨rfl, ml_X11_271⟩) sm_X11_isSlot rfl (Nat.le_of_ble_eq_true rfl) (z2037_X11_isSlot (fr := fr)  h1) (fun v M2 hq => ?_)
  obtain ⟨rfl, h2⟩ := hq
  show AW X _ 0 0 9 _ [.int 1] _ _
  refine a_if_ne 15 dX11_drop_9 (by decide) (fun _ => ?_) (fun c => absurd c (by decide))
  refine a_aload_n dX11_drop_15 rfl rfl ?_
  refine a_get (v := .ref 104) dX11_drop_16 fl_11_56 (cm_l h2 (by decide)) (cm_s h2 (by decide) rfl) (cm_g h2 rfl (by decide +kernel)) ?_
  refine a_iload_n dX11_drop_19 rfl rfl ?_
  refine a_iaload dX11_drop_20 (cm_l h2 (by decide)) (cm_s h2 (by decide) rfl) (by unfold vp_in; decide +kernel) ?_
  rw [show M2.2.2.1 104 (Int32.toNatClampNeg 2) = 0 from (cm_i h2 (by decide)).trans (by first | decide +kernel | rfl)]
  refine a_istore_n dX11_drop_21 rfl (Nat.le_of_ble_eq_true rfl) (lv2 := [(2, .int 0), (0, .ref 89), (1, .int 2)]) rfl ?_
  refine a_aload_n dX11_drop_22 rfl rfl ?_
  refine a_get (v := .ref 104) dX11_drop_23 fl_11_56 (cm_l h2 (by decide)) (cm_s h2 (by decide) rfl) (cm_g h2 rfl (by decide +kernel)) ?_
  refine a_iload_n dX11_drop_26 rfl rfl ?_
  refine a_iconst (v := 0) dX11_drop_27 (by decide) ?_
  refine a_iastore dX11_drop_28 (cm_l h2 (by decide)) (cm_s h2 (by decide) rfl) (by unfold vp_in; decide +kernel) ?_
  rw [show Int32.toNatClampNeg 2 = 2 from by decide +kernel]
  have h3 : Cm (up2 (up2 fs42 89 0 0) 104 2 0) (wI M2 104 2 0) := cm_I h2 (by decide)
  generalize (wI M2 104 2 0) = M3 at h3 ⊢
  refine a_iload_n dX11_drop_29 rfl rfl ?_
  exact a_iret dX11_drop_30 rfl ⟨by first | rfl | decide +kernel | simp [*], trivial⟩
set_option maxHeartbeats 4000000 in
set_option maxRecDepth 100000 in
theorem z2038_X11_isSlot {X : Nat × (Nat → Int32)} {fr : Nat} {M : Mem}  (h0 : Cm (up2 fs42 89 0 0) M) : AM yX11_isSlot cX11_isSlot 1 (some .boolean) true (fr + 11) 0 0 X [.int 3] M (fun v M1 => v = some (.int 1) ∧ Cm (up2 fs42 89 0 0) M1) := by
  refine AM.of false (by decide +kernel) (by intro h; cases h) (Nat.le_of_ble_eq_true rfl) ?_
  show AW X (RX11, cX11_isSlot, 1, (some .boolean), false, true, fr + 11) 0 0 0 [(0, .int 3)] [] M _
  refine a_iload_n dX11_isSlot_0 rfl rfl ?_
  refine a_i2l dX11_isSlot_1 ?_
  refine a_st (st2 := [.long 3]) (by first | decide +kernel | (refine congrArg (fun z => Value.int z :: []) ?_; decide +kernel) | (refine congrArg (fun z => Value.long z :: []) ?_; decide +kernel)) ?_
  refine a_lconst (v := 0) dX11_isSlot_2 (by decide) ?_
  refine a_ldc2 dX11_isSlot_3 co_X11_281 ?_
  refine a_callS (As := [.long 3, .long 0, .long 3]) (st := []) (bc := 0) (bs := 0) (mc := 0) (ms := 0) false dX11_isSlot_6 mw_X11_isIn rfl (Or.inl ⟨rfl, ml_X11_180⟩) sm_X11_isIn rfl (Nat.le_of_ble_eq_true rfl) (k_isIn (fr := fr + 10) 3 0 3) (fun v M1 hq => ?_)
  obtain ⟨rfl, hM1⟩ := hq
  rw [hM1]
  clear hM1 M1
  refine a_st (st2 := [.int 1]) (by first | decide +kernel | (refine congrArg (fun z => Value.int z :: []) ?_; decide +kernel) | (refine congrArg (fun z => Value.long z :: []) ?_; decide +kernel)) ?_
  exact a_zret dX11_isSlot_9 rfl (by first | decide | (split <;> rfl)) ⟨rfl, h0⟩
set_option maxHeartbeats 4000000 in
set_option maxRecDepth 100000 in
theorem q_drop_3 {X : Nat × (Nat → Int32)} {fr : Nat} {M : Mem}  (h0 : Cm fs42 M) : AM yX11_drop cX11_drop 3 (some .int) true (fr + 12) 0 0 X [.ref 89, .int 3] M (fun v M1 => v = some (.int 0) ∧ True) := by
  refine AM.of false (by decide +kernel) (by intro h; cases h) (Nat.le_of_ble_eq_true rfl) ?_
  show AW X (RX11, cX11_drop, 3, (some .int), false, true, fr + 12) 0 0 0 [(0, .ref 89), (1, .int 3)] [] M _
  refine a_aload_n dX11_drop_0 rfl rfl ?_
  refine a_iconst (v := 0) dX11_drop_1 (by decide) ?_
  refine a_putI dX11_drop_2 (Or.inl ⟨fl_11_1, Or.inl rfl⟩) rfl (cm_l h0 (by decide)) (cm_s h0 (by decide) rfl) rfl rfl ?_
  have h1 : Cm (up2 fs42 89 0 0) (wI M 89 0 0) := cm_I h0 (by decide)
  generalize (wI M 89 0 0) = M1 at h1 ⊢
  refine a_iload_n dX11_drop_5 rfl rfl ?_
  refine a_callS (As := [.int 3]) (st := []) (bc := 0) (bs := 0) (mc := 0) (ms := 0) false dX11_drop_6 mw_X11_isSlot rfl (Or.inl ⟨rfl, ml_X11_271⟩) sm_X11_isSlot rfl (Nat.le_of_ble_eq_true rfl) (z2038_X11_isSlot (fr := fr)  h1) (fun v M2 hq => ?_)
  obtain ⟨rfl, h2⟩ := hq
  show AW X _ 0 0 9 _ [.int 1] _ _
  refine a_if_ne 15 dX11_drop_9 (by decide) (fun _ => ?_) (fun c => absurd c (by decide))
  refine a_aload_n dX11_drop_15 rfl rfl ?_
  refine a_get (v := .ref 104) dX11_drop_16 fl_11_56 (cm_l h2 (by decide)) (cm_s h2 (by decide) rfl) (cm_g h2 rfl (by decide +kernel)) ?_
  refine a_iload_n dX11_drop_19 rfl rfl ?_
  refine a_iaload dX11_drop_20 (cm_l h2 (by decide)) (cm_s h2 (by decide) rfl) (by unfold vp_in; decide +kernel) ?_
  rw [show M2.2.2.1 104 (Int32.toNatClampNeg 3) = 0 from (cm_i h2 (by decide)).trans (by first | decide +kernel | rfl)]
  refine a_istore_n dX11_drop_21 rfl (Nat.le_of_ble_eq_true rfl) (lv2 := [(2, .int 0), (0, .ref 89), (1, .int 3)]) rfl ?_
  refine a_aload_n dX11_drop_22 rfl rfl ?_
  refine a_get (v := .ref 104) dX11_drop_23 fl_11_56 (cm_l h2 (by decide)) (cm_s h2 (by decide) rfl) (cm_g h2 rfl (by decide +kernel)) ?_
  refine a_iload_n dX11_drop_26 rfl rfl ?_
  refine a_iconst (v := 0) dX11_drop_27 (by decide) ?_
  refine a_iastore dX11_drop_28 (cm_l h2 (by decide)) (cm_s h2 (by decide) rfl) (by unfold vp_in; decide +kernel) ?_
  rw [show Int32.toNatClampNeg 3 = 3 from by decide +kernel]
  have h3 : Cm (up2 (up2 fs42 89 0 0) 104 3 0) (wI M2 104 3 0) := cm_I h2 (by decide)
  generalize (wI M2 104 3 0) = M3 at h3 ⊢
  refine a_iload_n dX11_drop_29 rfl rfl ?_
  exact a_iret dX11_drop_30 rfl ⟨by first | rfl | decide +kernel | simp [*], trivial⟩
set_option maxHeartbeats 4000000 in
set_option maxRecDepth 100000 in
theorem q_step_b {X : Nat × (Nat → Int32)} {fr : Nat} {M : Mem} (x : Int32) (hb_x : x < 0 ∨ 4 ≤ x) (h0 : Cm fs42 M) : AM yX11_step cX11_step 3 (some .int) true (fr + 12) 0 0 X [.ref 89, .int x] M (fun v M1 => v = some (.int (-2)) ∧ True) := by
  refine AM.of false (by decide +kernel) (by intro h; cases h) (Nat.le_of_ble_eq_true rfl) ?_
  show AW X (RX11, cX11_step, 3, (some .int), false, true, fr + 12) 0 0 0 [(0, .ref 89), (1, .int x)] [] M _
  refine a_aload_n dX11_step_0 rfl rfl ?_
  refine a_iconst (v := 0) dX11_step_1 (by decide) ?_
  refine a_putI dX11_step_2 (Or.inl ⟨fl_11_1, Or.inl rfl⟩) rfl (cm_l h0 (by decide)) (cm_s h0 (by decide) rfl) rfl rfl ?_
  have h1 : Cm (up2 fs42 89 0 0) (wI M 89 0 0) := cm_I h0 (by decide)
  generalize (wI M 89 0 0) = M1 at h1 ⊢
  refine a_iload_n dX11_step_5 rfl rfl ?_
  refine a_callS (As := [.int x]) (st := []) (bc := 0) (bs := 0) (mc := 0) (ms := 0) false dX11_step_6 mw_X11_isSlot rfl (Or.inl ⟨rfl, ml_X11_271⟩) sm_X11_isSlot rfl (Nat.le_of_ble_eq_true rfl) (z2034_X11_isSlot (fr := fr) x hb_x h1) (fun v M2 hq => ?_)
  obtain ⟨rfl, h2⟩ := hq
  show AW X _ 0 0 9 _ [.int 0] _ _
  refine a_if_ne 15 dX11_step_9 (by decide) (fun c => absurd (by decide) c) (fun _ => ?_)
  refine a_bipush (v := (-2)) dX11_step_12 (by decide) ?_
  exact a_iret dX11_step_14 rfl ⟨by first | rfl | decide +kernel | simp [*], trivial⟩
set_option maxHeartbeats 4000000 in
set_option maxRecDepth 100000 in
theorem z2039_X11_isEmpty {X : Nat × (Nat → Int32)} {fr : Nat} {M : Mem}  (h0 : Cm (up2 fs42 89 0 0) M) : AM yX11_isEmpty cX11_isEmpty 2 (some .boolean) true (fr + 11) 0 0 X [.ref 89, .int 0] M (fun v M1 => v = some (.int 1) ∧ Cm (up2 fs42 89 0 0) M1) := by
  refine AM.of false (by decide +kernel) (by intro h; cases h) (Nat.le_of_ble_eq_true rfl) ?_
  show AW X (RX11, cX11_isEmpty, 2, (some .boolean), false, true, fr + 11) 0 0 0 [(0, .ref 89), (1, .int 0)] [] M _
  refine a_aload_n dX11_isEmpty_0 rfl rfl ?_
  refine a_get (v := .ref 104) dX11_isEmpty_1 fl_11_56 (cm_l h0 (by decide)) (cm_s h0 (by decide) rfl) (cm_g h0 rfl (by decide +kernel)) ?_
  refine a_iload_n dX11_isEmpty_4 rfl rfl ?_
  refine a_iaload dX11_isEmpty_5 (cm_l h0 (by decide)) (cm_s h0 (by decide) rfl) (by unfold vp_in; decide +kernel) ?_
  rw [show M.2.2.1 104 (Int32.toNatClampNeg 0) = 0 from (cm_i h0 (by decide)).trans (by first | decide +kernel | rfl)]
  refine a_if_ne 13 dX11_isEmpty_6 (by decide) (fun c => absurd (by decide) c) (fun _ => ?_)
  refine a_iconst (v := 1) dX11_isEmpty_9 (by decide) ?_
  refine a_goto 14 dX11_isEmpty_10 (by decide) ?_
  exact a_zret dX11_isEmpty_14 rfl (by first | decide | (split <;> rfl)) ⟨rfl, h0⟩
set_option maxHeartbeats 4000000 in
set_option maxRecDepth 100000 in
theorem q_step_0 {X : Nat × (Nat → Int32)} {fr : Nat} {M : Mem}  (h0 : Cm fs42 M) : AM yX11_step cX11_step 3 (some .int) true (fr + 12) 0 0 X [.ref 89, .int 0] M (fun v M1 => v = some (.int (-5)) ∧ True) := by
  refine AM.of false (by decide +kernel) (by intro h; cases h) (Nat.le_of_ble_eq_true rfl) ?_
  show AW X (RX11, cX11_step, 3, (some .int), false, true, fr + 12) 0 0 0 [(0, .ref 89), (1, .int 0)] [] M _
  refine a_aload_n dX11_step_0 rfl rfl ?_
  refine a_iconst (v := 0) dX11_step_1 (by decide) ?_
  refine a_putI dX11_step_2 (Or.inl ⟨fl_11_1, Or.inl rfl⟩) rfl (cm_l h0 (by decide)) (cm_s h0 (by decide) rfl) rfl rfl ?_
  have h1 : Cm (up2 fs42 89 0 0) (wI M 89 0 0) := cm_I h0 (by decide)
  generalize (wI M 89 0 0) = M1 at h1 ⊢
  refine a_iload_n dX11_step_5 rfl rfl ?_
  refine a_callS (As := [.int 0]) (st := []) (bc := 0) (bs := 0) (mc := 0) (ms := 0) false dX11_step_6 mw_X11_isSlot rfl (Or.inl ⟨rfl, ml_X11_271⟩) sm_X11_isSlot rfl (Nat.le_of_ble_eq_true rfl) (z2035_X11_isSlot (fr := fr)  h1) (fun v M2 hq => ?_)
  obtain ⟨rfl, h2⟩ := hq
  show AW X _ 0 0 9 _ [.int 1] _ _
  refine a_if_ne 15 dX11_step_9 (by decide) (fun _ => ?_) (fun c => absurd c (by decide))
  refine a_aload_n dX11_step_15 rfl rfl ?_
  refine a_iload_n dX11_step_16 rfl rfl ?_
  refine a_callV (As := [.int 0]) (st := []) (a := 89) (ci := 11) (bc := 0) (bs := 0) (mc := 0) (ms := 0) false dX11_step_17 mw_X11_isEmpty rfl (Or.inl ⟨rfl, ml_X11_343⟩) im_X11_isEmpty se_X11_isEmpty (by decide) (cm_l h2 (by decide)) (cm_s h2 (by decide) rfl) rfl (Nat.le_of_ble_eq_true rfl) (z2039_X11_isEmpty (fr := fr)  h2) (fun v M3 hq => ?_)
  obtain ⟨rfl, h3⟩ := hq
  show AW X _ 0 0 20 _ [.int 1] _ _
  refine a_if_eq 26 dX11_step_20 (by decide) (fun c => absurd c (by decide)) (fun _ => ?_)
  refine a_bipush (v := (-5)) dX11_step_23 (by decide) ?_
  exact a_iret dX11_step_25 rfl ⟨by first | rfl | decide +kernel | simp [*], trivial⟩
set_option maxHeartbeats 4000000 in
set_option maxRecDepth 100000 in
theorem z2040_X11_isEmpty {X : Nat × (Nat → Int32)} {fr : Nat} {M : Mem}  (h0 : Cm (up2 fs42 89 0 0) M) : AM yX11_isEmpty cX11_isEmpty 2 (some .boolean) true (fr + 11) 0 0 X [.ref 89, .int 1] M (fun v M1 => v = some (.int 1) ∧ Cm (up2 fs42 89 0 0) M1) := by
  refine AM.of false (by decide +kernel) (by intro h; cases h) (Nat.le_of_ble_eq_true rfl) ?_
  show AW X (RX11, cX11_isEmpty, 2, (some .boolean), false, true, fr + 11) 0 0 0 [(0, .ref 89), (1, .int 1)] [] M _
  refine a_aload_n dX11_isEmpty_0 rfl rfl ?_
  refine a_get (v := .ref 104) dX11_isEmpty_1 fl_11_56 (cm_l h0 (by decide)) (cm_s h0 (by decide) rfl) (cm_g h0 rfl (by decide +kernel)) ?_
  refine a_iload_n dX11_isEmpty_4 rfl rfl ?_
  refine a_iaload dX11_isEmpty_5 (cm_l h0 (by decide)) (cm_s h0 (by decide) rfl) (by unfold vp_in; decide +kernel) ?_
  rw [show M.2.2.1 104 (Int32.toNatClampNeg 1) = 0 from (cm_i h0 (by decide)).trans (by first | decide +kernel | rfl)]
  refine a_if_ne 13 dX11_isEmpty_6 (by decide) (fun c => absurd (by decide) c) (fun _ => ?_)
  refine a_iconst (v := 1) dX11_isEmpty_9 (by decide) ?_
  refine a_goto 14 dX11_isEmpty_10 (by decide) ?_
  exact a_zret dX11_isEmpty_14 rfl (by first | decide | (split <;> rfl)) ⟨rfl, h0⟩
set_option maxHeartbeats 4000000 in
set_option maxRecDepth 100000 in
theorem q_step_1 {X : Nat × (Nat → Int32)} {fr : Nat} {M : Mem}  (h0 : Cm fs42 M) : AM yX11_step cX11_step 3 (some .int) true (fr + 12) 0 0 X [.ref 89, .int 1] M (fun v M1 => v = some (.int (-5)) ∧ True) := by
  refine AM.of false (by decide +kernel) (by intro h; cases h) (Nat.le_of_ble_eq_true rfl) ?_
  show AW X (RX11, cX11_step, 3, (some .int), false, true, fr + 12) 0 0 0 [(0, .ref 89), (1, .int 1)] [] M _
  refine a_aload_n dX11_step_0 rfl rfl ?_
  refine a_iconst (v := 0) dX11_step_1 (by decide) ?_
  refine a_putI dX11_step_2 (Or.inl ⟨fl_11_1, Or.inl rfl⟩) rfl (cm_l h0 (by decide)) (cm_s h0 (by decide) rfl) rfl rfl ?_
  have h1 : Cm (up2 fs42 89 0 0) (wI M 89 0 0) := cm_I h0 (by decide)
  generalize (wI M 89 0 0) = M1 at h1 ⊢
  refine a_iload_n dX11_step_5 rfl rfl ?_
  refine a_callS (As := [.int 1]) (st := []) (bc := 0) (bs := 0) (mc := 0) (ms := 0) false dX11_step_6 mw_X11_isSlot rfl (Or.inl ⟨rfl, ml_X11_271⟩) sm_X11_isSlot rfl (Nat.le_of_ble_eq_true rfl) (z2036_X11_isSlot (fr := fr)  h1) (fun v M2 hq => ?_)
  obtain ⟨rfl, h2⟩ := hq
  show AW X _ 0 0 9 _ [.int 1] _ _
  refine a_if_ne 15 dX11_step_9 (by decide) (fun _ => ?_) (fun c => absurd c (by decide))
  refine a_aload_n dX11_step_15 rfl rfl ?_
  refine a_iload_n dX11_step_16 rfl rfl ?_
  refine a_callV (As := [.int 1]) (st := []) (a := 89) (ci := 11) (bc := 0) (bs := 0) (mc := 0) (ms := 0) false dX11_step_17 mw_X11_isEmpty rfl (Or.inl ⟨rfl, ml_X11_343⟩) im_X11_isEmpty se_X11_isEmpty (by decide) (cm_l h2 (by decide)) (cm_s h2 (by decide) rfl) rfl (Nat.le_of_ble_eq_true rfl) (z2040_X11_isEmpty (fr := fr)  h2) (fun v M3 hq => ?_)
  obtain ⟨rfl, h3⟩ := hq
  show AW X _ 0 0 20 _ [.int 1] _ _
  refine a_if_eq 26 dX11_step_20 (by decide) (fun c => absurd c (by decide)) (fun _ => ?_)
  refine a_bipush (v := (-5)) dX11_step_23 (by decide) ?_
  exact a_iret dX11_step_25 rfl ⟨by first | rfl | decide +kernel | simp [*], trivial⟩
set_option maxHeartbeats 4000000 in
set_option maxRecDepth 100000 in
theorem z2041_X11_isEmpty {X : Nat × (Nat → Int32)} {fr : Nat} {M : Mem}  (h0 : Cm (up2 fs42 89 0 0) M) : AM yX11_isEmpty cX11_isEmpty 2 (some .boolean) true (fr + 11) 0 0 X [.ref 89, .int 2] M (fun v M1 => v = some (.int 1) ∧ Cm (up2 fs42 89 0 0) M1) := by
  refine AM.of false (by decide +kernel) (by intro h; cases h) (Nat.le_of_ble_eq_true rfl) ?_
  show AW X (RX11, cX11_isEmpty, 2, (some .boolean), false, true, fr + 11) 0 0 0 [(0, .ref 89), (1, .int 2)] [] M _
  refine a_aload_n dX11_isEmpty_0 rfl rfl ?_
  refine a_get (v := .ref 104) dX11_isEmpty_1 fl_11_56 (cm_l h0 (by decide)) (cm_s h0 (by decide) rfl) (cm_g h0 rfl (by decide +kernel)) ?_
  refine a_iload_n dX11_isEmpty_4 rfl rfl ?_
  refine a_iaload dX11_isEmpty_5 (cm_l h0 (by decide)) (cm_s h0 (by decide) rfl) (by unfold vp_in; decide +kernel) ?_
  rw [show M.2.2.1 104 (Int32.toNatClampNeg 2) = 0 from (cm_i h0 (by decide)).trans (by first | decide +kernel | rfl)]
  refine a_if_ne 13 dX11_isEmpty_6 (by decide) (fun c => absurd (by decide) c) (fun _ => ?_)
  refine a_iconst (v := 1) dX11_isEmpty_9 (by decide) ?_
  refine a_goto 14 dX11_isEmpty_10 (by decide) ?_
  exact a_zret dX11_isEmpty_14 rfl (by first | decide | (split <;> rfl)) ⟨rfl, h0⟩
set_option maxHeartbeats 4000000 in
set_option maxRecDepth 100000 in
theorem q_step_2 {X : Nat × (Nat → Int32)} {fr : Nat} {M : Mem}  (h0 : Cm fs42 M) : AM yX11_step cX11_step 3 (some .int) true (fr + 12) 0 0 X [.ref 89, .int 2] M (fun v M1 => v = some (.int (-5)) ∧ True) := by
  refine AM.of false (by decide +kernel) (by intro h; cases h) (Nat.le_of_ble_eq_true rfl) ?_
  show AW X (RX11, cX11_step, 3, (some .int), false, true, fr + 12) 0 0 0 [(0, .ref 89), (1, .int 2)] [] M _
  refine a_aload_n dX11_step_0 rfl rfl ?_
  refine a_iconst (v := 0) dX11_step_1 (by decide) ?_
  refine a_putI dX11_step_2 (Or.inl ⟨fl_11_1, Or.inl rfl⟩) rfl (cm_l h0 (by decide)) (cm_s h0 (by decide) rfl) rfl rfl ?_
  have h1 : Cm (up2 fs42 89 0 0) (wI M 89 0 0) := cm_I h0 (by decide)
  generalize (wI M 89 0 0) = M1 at h1 ⊢
  refine a_iload_n dX11_step_5 rfl rfl ?_
  refine a_callS (As := [.int 2]) (st := []) (bc := 0) (bs := 0) (mc := 0) (ms := 0) false dX11_step_6 mw_X11_isSlot rfl (Or.inl ⟨rfl, ml_X11_271⟩) sm_X11_isSlot rfl (Nat.le_of_ble_eq_true rfl) (z2037_X11_isSlot (fr := fr)  h1) (fun v M2 hq => ?_)
  obtain ⟨rfl, h2⟩ := hq
  show AW X _ 0 0 9 _ [.int 1] _ _
  refine a_if_ne 15 dX11_step_9 (by decide) (fun _ => ?_) (fun c => absurd c (by decide))
  refine a_aload_n dX11_step_15 rfl rfl ?_
  refine a_iload_n dX11_step_16 rfl rfl ?_
  refine a_callV (As := [.int 2]) (st := []) (a := 89) (ci := 11) (bc := 0) (bs := 0) (mc := 0) (ms := 0) false dX11_step_17 mw_X11_isEmpty rfl (Or.inl ⟨rfl, ml_X11_343⟩) im_X11_isEmpty se_X11_isEmpty (by decide) (cm_l h2 (by decide)) (cm_s h2 (by decide) rfl) rfl (Nat.le_of_ble_eq_true rfl) (z2041_X11_isEmpty (fr := fr)  h2) (fun v M3 hq => ?_)
  obtain ⟨rfl, h3⟩ := hq
  show AW X _ 0 0 20 _ [.int 1] _ _
  refine a_if_eq 26 dX11_step_20 (by decide) (fun c => absurd c (by decide)) (fun _ => ?_)
  refine a_bipush (v := (-5)) dX11_step_23 (by decide) ?_
  exact a_iret dX11_step_25 rfl ⟨by first | rfl | decide +kernel | simp [*], trivial⟩
set_option maxHeartbeats 4000000 in
set_option maxRecDepth 100000 in
theorem z2042_X11_isEmpty {X : Nat × (Nat → Int32)} {fr : Nat} {M : Mem}  (h0 : Cm (up2 fs42 89 0 0) M) : AM yX11_isEmpty cX11_isEmpty 2 (some .boolean) true (fr + 11) 0 0 X [.ref 89, .int 3] M (fun v M1 => v = some (.int 1) ∧ Cm (up2 fs42 89 0 0) M1) := by
  refine AM.of false (by decide +kernel) (by intro h; cases h) (Nat.le_of_ble_eq_true rfl) ?_
  show AW X (RX11, cX11_isEmpty, 2, (some .boolean), false, true, fr + 11) 0 0 0 [(0, .ref 89), (1, .int 3)] [] M _
  refine a_aload_n dX11_isEmpty_0 rfl rfl ?_
  refine a_get (v := .ref 104) dX11_isEmpty_1 fl_11_56 (cm_l h0 (by decide)) (cm_s h0 (by decide) rfl) (cm_g h0 rfl (by decide +kernel)) ?_
  refine a_iload_n dX11_isEmpty_4 rfl rfl ?_
  refine a_iaload dX11_isEmpty_5 (cm_l h0 (by decide)) (cm_s h0 (by decide) rfl) (by unfold vp_in; decide +kernel) ?_
  rw [show M.2.2.1 104 (Int32.toNatClampNeg 3) = 0 from (cm_i h0 (by decide)).trans (by first | decide +kernel | rfl)]
  refine a_if_ne 13 dX11_isEmpty_6 (by decide) (fun c => absurd (by decide) c) (fun _ => ?_)
  refine a_iconst (v := 1) dX11_isEmpty_9 (by decide) ?_
  refine a_goto 14 dX11_isEmpty_10 (by decide) ?_
  exact a_zret dX11_isEmpty_14 rfl (by first | decide | (split <;> rfl)) ⟨rfl, h0⟩
set_option maxHeartbeats 4000000 in
set_option maxRecDepth 100000 in
theorem q_step_3 {X : Nat × (Nat → Int32)} {fr : Nat} {M : Mem}  (h0 : Cm fs42 M) : AM yX11_step cX11_step 3 (some .int) true (fr + 12) 0 0 X [.ref 89, .int 3] M (fun v M1 => v = some (.int (-5)) ∧ True) := by
  refine AM.of false (by decide +kernel) (by intro h; cases h) (Nat.le_of_ble_eq_true rfl) ?_
  show AW X (RX11, cX11_step, 3, (some .int), false, true, fr + 12) 0 0 0 [(0, .ref 89), (1, .int 3)] [] M _
  refine a_aload_n dX11_step_0 rfl rfl ?_
  refine a_iconst (v := 0) dX11_step_1 (by decide) ?_
  refine a_putI dX11_step_2 (Or.inl ⟨fl_11_1, Or.inl rfl⟩) rfl (cm_l h0 (by decide)) (cm_s h0 (by decide) rfl) rfl rfl ?_
  have h1 : Cm (up2 fs42 89 0 0) (wI M 89 0 0) := cm_I h0 (by decide)
  generalize (wI M 89 0 0) = M1 at h1 ⊢
  refine a_iload_n dX11_step_5 rfl rfl ?_
  refine a_callS (As := [.int 3]) (st := []) (bc := 0) (bs := 0) (mc := 0) (ms := 0) false dX11_step_6 mw_X11_isSlot rfl (Or.inl ⟨rfl, ml_X11_271⟩) sm_X11_isSlot rfl (Nat.le_of_ble_eq_true rfl) (z2038_X11_isSlot (fr := fr)  h1) (fun v M2 hq => ?_)
  obtain ⟨rfl, h2⟩ := hq
  show AW X _ 0 0 9 _ [.int 1] _ _
  refine a_if_ne 15 dX11_step_9 (by decide) (fun _ => ?_) (fun c => absurd c (by decide))
  refine a_aload_n dX11_step_15 rfl rfl ?_
  refine a_iload_n dX11_step_16 rfl rfl ?_
  refine a_callV (As := [.int 3]) (st := []) (a := 89) (ci := 11) (bc := 0) (bs := 0) (mc := 0) (ms := 0) false dX11_step_17 mw_X11_isEmpty rfl (Or.inl ⟨rfl, ml_X11_343⟩) im_X11_isEmpty se_X11_isEmpty (by decide) (cm_l h2 (by decide)) (cm_s h2 (by decide) rfl) rfl (Nat.le_of_ble_eq_true rfl) (z2042_X11_isEmpty (fr := fr)  h2) (fun v M3 hq => ?_)
  obtain ⟨rfl, h3⟩ := hq
  show AW X _ 0 0 20 _ [.int 1] _ _
  refine a_if_eq 26 dX11_step_20 (by decide) (fun c => absurd c (by decide)) (fun _ => ?_)
  refine a_bipush (v := (-5)) dX11_step_23 (by decide) ?_
  exact a_iret dX11_step_25 rfl ⟨by first | rfl | decide +kernel | simp [*], trivial⟩
set_option maxHeartbeats 4000000 in
set_option maxRecDepth 100000 in
theorem q_normal_b {X : Nat × (Nat → Int32)} {fr : Nat} {M : Mem} (x : Int32) (hb_x : x < 0 ∨ 4 ≤ x) (h0 : Cm fs42 M) : AM yX11_normal cX11_normal 4 (some .int) true (fr + 12) 0 0 X [.ref 89, .int x] M (fun v M1 => v = some (.int (-2)) ∧ True) := by
  refine AM.of false (by decide +kernel) (by intro h; cases h) (Nat.le_of_ble_eq_true rfl) ?_
  show AW X (RX11, cX11_normal, 4, (some .int), false, true, fr + 12) 0 0 0 [(0, .ref 89), (1, .int x)] [] M _
  refine a_aload_n dX11_normal_0 rfl rfl ?_
  refine a_iconst (v := 0) dX11_normal_1 (by decide) ?_
  refine a_putI dX11_normal_2 (Or.inl ⟨fl_11_1, Or.inl rfl⟩) rfl (cm_l h0 (by decide)) (cm_s h0 (by decide) rfl) rfl rfl ?_
  have h1 : Cm (up2 fs42 89 0 0) (wI M 89 0 0) := cm_I h0 (by decide)
  generalize (wI M 89 0 0) = M1 at h1 ⊢
  refine a_iload_n dX11_normal_5 rfl rfl ?_
  refine a_callS (As := [.int x]) (st := []) (bc := 0) (bs := 0) (mc := 0) (ms := 0) false dX11_normal_6 mw_X11_isSlot rfl (Or.inl ⟨rfl, ml_X11_271⟩) sm_X11_isSlot rfl (Nat.le_of_ble_eq_true rfl) (z2034_X11_isSlot (fr := fr) x hb_x h1) (fun v M2 hq => ?_)
  obtain ⟨rfl, h2⟩ := hq
  show AW X _ 0 0 9 _ [.int 0] _ _
  refine a_if_ne 15 dX11_normal_9 (by decide) (fun c => absurd (by decide) c) (fun _ => ?_)
  refine a_bipush (v := (-2)) dX11_normal_12 (by decide) ?_
  exact a_iret dX11_normal_14 rfl ⟨by first | rfl | decide +kernel | simp [*], trivial⟩
set_option maxHeartbeats 4000000 in
set_option maxRecDepth 100000 in
theorem q_normal_0 {X : Nat × (Nat → Int32)} {fr : Nat} {M : Mem}  (h0 : Cm fs42 M) : AM yX11_normal cX11_normal 4 (some .int) true (fr + 12) 0 0 X [.ref 89, .int 0] M (fun v M1 => v = some (.int (-5)) ∧ True) := by
  refine AM.of false (by decide +kernel) (by intro h; cases h) (Nat.le_of_ble_eq_true rfl) ?_
  show AW X (RX11, cX11_normal, 4, (some .int), false, true, fr + 12) 0 0 0 [(0, .ref 89), (1, .int 0)] [] M _
  refine a_aload_n dX11_normal_0 rfl rfl ?_
  refine a_iconst (v := 0) dX11_normal_1 (by decide) ?_
  refine a_putI dX11_normal_2 (Or.inl ⟨fl_11_1, Or.inl rfl⟩) rfl (cm_l h0 (by decide)) (cm_s h0 (by decide) rfl) rfl rfl ?_
  have h1 : Cm (up2 fs42 89 0 0) (wI M 89 0 0) := cm_I h0 (by decide)
  generalize (wI M 89 0 0) = M1 at h1 ⊢
  refine a_iload_n dX11_normal_5 rfl rfl ?_
  refine a_callS (As := [.int 0]) (st := []) (bc := 0) (bs := 0) (mc := 0) (ms := 0) false dX11_normal_6 mw_X11_isSlot rfl (Or.inl ⟨rfl, ml_X11_271⟩) sm_X11_isSlot rfl (Nat.le_of_ble_eq_true rfl) (z2035_X11_isSlot (fr := fr)  h1) (fun v M2 hq => ?_)
  obtain ⟨rfl, h2⟩ := hq
  show AW X _ 0 0 9 _ [.int 1] _ _
  refine a_if_ne 15 dX11_normal_9 (by decide) (fun _ => ?_) (fun c => absurd c (by decide))
  refine a_aload_n dX11_normal_15 rfl rfl ?_
  refine a_iload_n dX11_normal_16 rfl rfl ?_
  refine a_callV (As := [.int 0]) (st := []) (a := 89) (ci := 11) (bc := 0) (bs := 0) (mc := 0) (ms := 0) false dX11_normal_17 mw_X11_isEmpty rfl (Or.inl ⟨rfl, ml_X11_343⟩) im_X11_isEmpty se_X11_isEmpty (by decide) (cm_l h2 (by decide)) (cm_s h2 (by decide) rfl) rfl (Nat.le_of_ble_eq_true rfl) (z2039_X11_isEmpty (fr := fr)  h2) (fun v M3 hq => ?_)
  obtain ⟨rfl, h3⟩ := hq
  show AW X _ 0 0 20 _ [.int 1] _ _
  refine a_if_eq 26 dX11_normal_20 (by decide) (fun c => absurd c (by decide)) (fun _ => ?_)
  refine a_bipush (v := (-5)) dX11_normal_23 (by decide) ?_
  exact a_iret dX11_normal_25 rfl ⟨by first | rfl | decide +kernel | simp [*], trivial⟩
set_option maxHeartbeats 4000000 in
set_option maxRecDepth 100000 in
theorem q_normal_1 {X : Nat × (Nat → Int32)} {fr : Nat} {M : Mem}  (h0 : Cm fs42 M) : AM yX11_normal cX11_normal 4 (some .int) true (fr + 12) 0 0 X [.ref 89, .int 1] M (fun v M1 => v = some (.int (-5)) ∧ True) := by
  refine AM.of false (by decide +kernel) (by intro h; cases h) (Nat.le_of_ble_eq_true rfl) ?_
  show AW X (RX11, cX11_normal, 4, (some .int), false, true, fr + 12) 0 0 0 [(0, .ref 89), (1, .int 1)] [] M _
  refine a_aload_n dX11_normal_0 rfl rfl ?_
  refine a_iconst (v := 0) dX11_normal_1 (by decide) ?_
  refine a_putI dX11_normal_2 (Or.inl ⟨fl_11_1, Or.inl rfl⟩) rfl (cm_l h0 (by decide)) (cm_s h0 (by decide) rfl) rfl rfl ?_
  have h1 : Cm (up2 fs42 89 0 0) (wI M 89 0 0) := cm_I h0 (by decide)
  generalize (wI M 89 0 0) = M1 at h1 ⊢
  refine a_iload_n dX11_normal_5 rfl rfl ?_
  refine a_callS (As := [.int 1]) (st := []) (bc := 0) (bs := 0) (mc := 0) (ms := 0) false dX11_normal_6 mw_X11_isSlot rfl (Or.inl ⟨rfl, ml_X11_271⟩) sm_X11_isSlot rfl (Nat.le_of_ble_eq_true rfl) (z2036_X11_isSlot (fr := fr)  h1) (fun v M2 hq => ?_)
  obtain ⟨rfl, h2⟩ := hq
  show AW X _ 0 0 9 _ [.int 1] _ _
  refine a_if_ne 15 dX11_normal_9 (by decide) (fun _ => ?_) (fun c => absurd c (by decide))
  refine a_aload_n dX11_normal_15 rfl rfl ?_
  refine a_iload_n dX11_normal_16 rfl rfl ?_
  refine a_callV (As := [.int 1]) (st := []) (a := 89) (ci := 11) (bc := 0) (bs := 0) (mc := 0) (ms := 0) false dX11_normal_17 mw_X11_isEmpty rfl (Or.inl ⟨rfl, ml_X11_343⟩) im_X11_isEmpty se_X11_isEmpty (by decide) (cm_l h2 (by decide)) (cm_s h2 (by decide) rfl) rfl (Nat.le_of_ble_eq_true rfl) (z2040_X11_isEmpty (fr := fr)  h2) (fun v M3 hq => ?_)
  obtain ⟨rfl, h3⟩ := hq
  show AW X _ 0 0 20 _ [.int 1] _ _
  refine a_if_eq 26 dX11_normal_20 (by decide) (fun c => absurd c (by decide)) (fun _ => ?_)
  refine a_bipush (v := (-5)) dX11_normal_23 (by decide) ?_
  exact a_iret dX11_normal_25 rfl ⟨by first | rfl | decide +kernel | simp [*], trivial⟩
set_option maxHeartbeats 4000000 in
set_option maxRecDepth 100000 in
theorem q_normal_2 {X : Nat × (Nat → Int32)} {fr : Nat} {M : Mem}  (h0 : Cm fs42 M) : AM yX11_normal cX11_normal 4 (some .int) true (fr + 12) 0 0 X [.ref 89, .int 2] M (fun v M1 => v = some (.int (-5)) ∧ True) := by
  refine AM.of false (by decide +kernel) (by intro h; cases h) (Nat.le_of_ble_eq_true rfl) ?_
  show AW X (RX11, cX11_normal, 4, (some .int), false, true, fr + 12) 0 0 0 [(0, .ref 89), (1, .int 2)] [] M _
  refine a_aload_n dX11_normal_0 rfl rfl ?_
  refine a_iconst (v := 0) dX11_normal_1 (by decide) ?_
  refine a_putI dX11_normal_2 (Or.inl ⟨fl_11_1, Or.inl rfl⟩) rfl (cm_l h0 (by decide)) (cm_s h0 (by decide) rfl) rfl rfl ?_
  have h1 : Cm (up2 fs42 89 0 0) (wI M 89 0 0) := cm_I h0 (by decide)
  generalize (wI M 89 0 0) = M1 at h1 ⊢
  refine a_iload_n dX11_normal_5 rfl rfl ?_
  refine a_callS (As := [.int 2]) (st := []) (bc := 0) (bs := 0) (mc := 0) (ms := 0) false dX11_normal_6 mw_X11_isSlot rfl (Or.inl ⟨rfl, ml_X11_271⟩) sm_X11_isSlot rfl (Nat.le_of_ble_eq_true rfl) (z2037_X11_isSlot (fr := fr)  h1) (fun v M2 hq => ?_)
  obtain ⟨rfl, h2⟩ := hq
  show AW X _ 0 0 9 _ [.int 1] _ _
  refine a_if_ne 15 dX11_normal_9 (by decide) (fun _ => ?_) (fun c => absurd c (by decide))
  refine a_aload_n dX11_normal_15 rfl rfl ?_
  refine a_iload_n dX11_normal_16 rfl rfl ?_
  refine a_callV (As := [.int 2]) (st := []) (a := 89) (ci := 11) (bc := 0) (bs := 0) (mc := 0) (ms := 0) false dX11_normal_17 mw_X11_isEmpty rfl (Or.inl ⟨rfl, ml_X11_343⟩) im_X11_isEmpty se_X11_isEmpty (by decide) (cm_l h2 (by decide)) (cm_s h2 (by decide) rfl) rfl (Nat.le_of_ble_eq_true rfl) (z2041_X11_isEmpty (fr := fr)  h2) (fun v M3 hq => ?_)
  obtain ⟨rfl, h3⟩ := hq
  show AW X _ 0 0 20 _ [.int 1] _ _
  refine a_if_eq 26 dX11_normal_20 (by decide) (fun c => absurd c (by decide)) (fun _ => ?_)
  refine a_bipush (v := (-5)) dX11_normal_23 (by decide) ?_
  exact a_iret dX11_normal_25 rfl ⟨by first | rfl | decide +kernel | simp [*], trivial⟩
set_option maxHeartbeats 4000000 in
set_option maxRecDepth 100000 in
theorem q_normal_3 {X : Nat × (Nat → Int32)} {fr : Nat} {M : Mem}  (h0 : Cm fs42 M) : AM yX11_normal cX11_normal 4 (some .int) true (fr + 12) 0 0 X [.ref 89, .int 3] M (fun v M1 => v = some (.int (-5)) ∧ True) := by
  refine AM.of false (by decide +kernel) (by intro h; cases h) (Nat.le_of_ble_eq_true rfl) ?_
  show AW X (RX11, cX11_normal, 4, (some .int), false, true, fr + 12) 0 0 0 [(0, .ref 89), (1, .int 3)] [] M _
  refine a_aload_n dX11_normal_0 rfl rfl ?_
  refine a_iconst (v := 0) dX11_normal_1 (by decide) ?_
  refine a_putI dX11_normal_2 (Or.inl ⟨fl_11_1, Or.inl rfl⟩) rfl (cm_l h0 (by decide)) (cm_s h0 (by decide) rfl) rfl rfl ?_
  have h1 : Cm (up2 fs42 89 0 0) (wI M 89 0 0) := cm_I h0 (by decide)
  generalize (wI M 89 0 0) = M1 at h1 ⊢
  refine a_iload_n dX11_normal_5 rfl rfl ?_
  refine a_callS (As := [.int 3]) (st := []) (bc := 0) (bs := 0) (mc := 0) (ms := 0) false dX11_normal_6 mw_X11_isSlot rfl (Or.inl ⟨rfl, ml_X11_271⟩) sm_X11_isSlot rfl (Nat.le_of_ble_eq_true rfl) (z2038_X11_isSlot (fr := fr)  h1) (fun v M2 hq => ?_)
  obtain ⟨rfl, h2⟩ := hq
  show AW X _ 0 0 9 _ [.int 1] _ _
  refine a_if_ne 15 dX11_normal_9 (by decide) (fun _ => ?_) (fun c => absurd c (by decide))
  refine a_aload_n dX11_normal_15 rfl rfl ?_
  refine a_iload_n dX11_normal_16 rfl rfl ?_
  refine a_callV (As := [.int 3]) (st := []) (a := 89) (ci := 11) (bc := 0) (bs := 0) (mc := 0) (ms := 0) false dX11_normal_17 mw_X11_isEmpty rfl (Or.inl ⟨rfl, ml_X11_343⟩) im_X11_isEmpty se_X11_isEmpty (by decide) (cm_l h2 (by decide)) (cm_s h2 (by decide) rfl) rfl (Nat.le_of_ble_eq_true rfl) (z2042_X11_isEmpty (fr := fr)  h2) (fun v M3 hq => ?_)
  obtain ⟨rfl, h3⟩ := hq
  show AW X _ 0 0 20 _ [.int 1] _ _
  refine a_if_eq 26 dX11_normal_20 (by decide) (fun c => absurd c (by decide)) (fun _ => ?_)
  refine a_bipush (v := (-5)) dX11_normal_23 (by decide) ?_
  exact a_iret dX11_normal_25 rfl ⟨by first | rfl | decide +kernel | simp [*], trivial⟩
set_option maxHeartbeats 4000000 in
set_option maxRecDepth 100000 in
theorem q_lines_b {X : Nat × (Nat → Int32)} {fr : Nat} {M : Mem} (x : Int32) (hb_x : x < 0 ∨ 4 ≤ x) (h0 : Cm fs42 M) : AM yX11_lines cX11_lines 2 (some .int) true (fr + 12) 0 0 X [.ref 89, .int x] M (fun v M1 => v = some (.int (-2)) ∧ True) := by
  refine AM.of false (by decide +kernel) (by intro h; cases h) (Nat.le_of_ble_eq_true rfl) ?_
  show AW X (RX11, cX11_lines, 2, (some .int), false, true, fr + 12) 0 0 0 [(0, .ref 89), (1, .int x)] [] M _
  refine a_aload_n dX11_lines_0 rfl rfl ?_
  refine a_iconst (v := 0) dX11_lines_1 (by decide) ?_
  refine a_putI dX11_lines_2 (Or.inl ⟨fl_11_1, Or.inl rfl⟩) rfl (cm_l h0 (by decide)) (cm_s h0 (by decide) rfl) rfl rfl ?_
  have h1 : Cm (up2 fs42 89 0 0) (wI M 89 0 0) := cm_I h0 (by decide)
  generalize (wI M 89 0 0) = M1 at h1 ⊢
  refine a_iload_n dX11_lines_5 rfl rfl ?_
  refine a_callS (As := [.int x]) (st := []) (bc := 0) (bs := 0) (mc := 0) (ms := 0) false dX11_lines_6 mw_X11_isSlot rfl (Or.inl ⟨rfl, ml_X11_271⟩) sm_X11_isSlot rfl (Nat.le_of_ble_eq_true rfl) (z2034_X11_isSlot (fr := fr) x hb_x h1) (fun v M2 hq => ?_)
  obtain ⟨rfl, h2⟩ := hq
  show AW X _ 0 0 9 _ [.int 0] _ _
  refine a_if_ne 15 dX11_lines_9 (by decide) (fun c => absurd (by decide) c) (fun _ => ?_)
  refine a_bipush (v := (-2)) dX11_lines_12 (by decide) ?_
  exact a_iret dX11_lines_14 rfl ⟨by first | rfl | decide +kernel | simp [*], trivial⟩
set_option maxHeartbeats 4000000 in
set_option maxRecDepth 100000 in
theorem q_lines_0 {X : Nat × (Nat → Int32)} {fr : Nat} {M : Mem}  (h0 : Cm fs42 M) : AM yX11_lines cX11_lines 2 (some .int) true (fr + 12) 0 0 X [.ref 89, .int 0] M (fun v M1 => v = some (.int (-5)) ∧ True) := by
  refine AM.of false (by decide +kernel) (by intro h; cases h) (Nat.le_of_ble_eq_true rfl) ?_
  show AW X (RX11, cX11_lines, 2, (some .int), false, true, fr + 12) 0 0 0 [(0, .ref 89), (1, .int 0)] [] M _
  refine a_aload_n dX11_lines_0 rfl rfl ?_
  refine a_iconst (v := 0) dX11_lines_1 (by decide) ?_
  refine a_putI dX11_lines_2 (Or.inl ⟨fl_11_1, Or.inl rfl⟩) rfl (cm_l h0 (by decide)) (cm_s h0 (by decide) rfl) rfl rfl ?_
  have h1 : Cm (up2 fs42 89 0 0) (wI M 89 0 0) := cm_I h0 (by decide)
  generalize (wI M 89 0 0) = M1 at h1 ⊢
  refine a_iload_n dX11_lines_5 rfl rfl ?_
  refine a_callS (As := [.int 0]) (st := []) (bc := 0) (bs := 0) (mc := 0) (ms := 0) false dX11_lines_6 mw_X11_isSlot rfl (Or.inl ⟨rfl, ml_X11_271⟩) sm_X11_isSlot rfl (Nat.le_of_ble_eq_true rfl) (z2035_X11_isSlot (fr := fr)  h1) (fun v M2 hq => ?_)
  obtain ⟨rfl, h2⟩ := hq
  show AW X _ 0 0 9 _ [.int 1] _ _
  refine a_if_ne 15 dX11_lines_9 (by decide) (fun _ => ?_) (fun c => absurd c (by decide))
  refine a_aload_n dX11_lines_15 rfl rfl ?_
  refine a_iload_n dX11_lines_16 rfl rfl ?_
  refine a_callV (As := [.int 0]) (st := []) (a := 89) (ci := 11) (bc := 0) (bs := 0) (mc := 0) (ms := 0) false dX11_lines_17 mw_X11_isEmpty rfl (Or.inl ⟨rfl, ml_X11_343⟩) im_X11_isEmpty se_X11_isEmpty (by decide) (cm_l h2 (by decide)) (cm_s h2 (by decide) rfl) rfl (Nat.le_of_ble_eq_true rfl) (z2039_X11_isEmpty (fr := fr)  h2) (fun v M3 hq => ?_)
  obtain ⟨rfl, h3⟩ := hq
  show AW X _ 0 0 20 _ [.int 1] _ _
  refine a_if_eq 26 dX11_lines_20 (by decide) (fun c => absurd c (by decide)) (fun _ => ?_)
  refine a_bipush (v := (-5)) dX11_lines_23 (by decide) ?_
  exact a_iret dX11_lines_25 rfl ⟨by first | rfl | decide +kernel | simp [*], trivial⟩
set_option maxHeartbeats 4000000 in
set_option maxRecDepth 100000 in
theorem q_lines_1 {X : Nat × (Nat → Int32)} {fr : Nat} {M : Mem}  (h0 : Cm fs42 M) : AM yX11_lines cX11_lines 2 (some .int) true (fr + 12) 0 0 X [.ref 89, .int 1] M (fun v M1 => v = some (.int (-5)) ∧ True) := by
  refine AM.of false (by decide +kernel) (by intro h; cases h) (Nat.le_of_ble_eq_true rfl) ?_
  show AW X (RX11, cX11_lines, 2, (some .int), false, true, fr + 12) 0 0 0 [(0, .ref 89), (1, .int 1)] [] M _
  refine a_aload_n dX11_lines_0 rfl rfl ?_
  refine a_iconst (v := 0) dX11_lines_1 (by decide) ?_
  refine a_putI dX11_lines_2 (Or.inl ⟨fl_11_1, Or.inl rfl⟩) rfl (cm_l h0 (by decide)) (cm_s h0 (by decide) rfl) rfl rfl ?_
  have h1 : Cm (up2 fs42 89 0 0) (wI M 89 0 0) := cm_I h0 (by decide)
  generalize (wI M 89 0 0) = M1 at h1 ⊢
  refine a_iload_n dX11_lines_5 rfl rfl ?_
  refine a_callS (As := [.int 1]) (st := []) (bc := 0) (bs := 0) (mc := 0) (ms := 0) false dX11_lines_6 mw_X11_isSlot rfl (Or.inl ⟨rfl, ml_X11_271⟩) sm_X11_isSlot rfl (Nat.le_of_ble_eq_true rfl) (z2036_X11_isSlot (fr := fr)  h1) (fun v M2 hq => ?_)
  obtain ⟨rfl, h2⟩ := hq
  show AW X _ 0 0 9 _ [.int 1] _ _
  refine a_if_ne 15 dX11_lines_9 (by decide) (fun _ => ?_) (fun c => absurd c (by decide))
  refine a_aload_n dX11_lines_15 rfl rfl ?_
  refine a_iload_n dX11_lines_16 rfl rfl ?_
  refine a_callV (As := [.int 1]) (st := []) (a := 89) (ci := 11) (bc := 0) (bs := 0) (mc := 0) (ms := 0) false dX11_lines_17 mw_X11_isEmpty rfl (Or.inl ⟨rfl, ml_X11_343⟩) im_X11_isEmpty se_X11_isEmpty (by decide) (cm_l h2 (by decide)) (cm_s h2 (by decide) rfl) rfl (Nat.le_of_ble_eq_true rfl) (z2040_X11_isEmpty (fr := fr)  h2) (fun v M3 hq => ?_)
  obtain ⟨rfl, h3⟩ := hq
  show AW X _ 0 0 20 _ [.int 1] _ _
  refine a_if_eq 26 dX11_lines_20 (by decide) (fun c => absurd c (by decide)) (fun _ => ?_)
  refine a_bipush (v := (-5)) dX11_lines_23 (by decide) ?_
  exact a_iret dX11_lines_25 rfl ⟨by first | rfl | decide +kernel | simp [*], trivial⟩
set_option maxHeartbeats 4000000 in
set_option maxRecDepth 100000 in
theorem q_lines_2 {X : Nat × (Nat → Int32)} {fr : Nat} {M : Mem}  (h0 : Cm fs42 M) : AM yX11_lines cX11_lines 2 (some .int) true (fr + 12) 0 0 X [.ref 89, .int 2] M (fun v M1 => v = some (.int (-5)) ∧ True) := by
  refine AM.of false (by decide +kernel) (by intro h; cases h) (Nat.le_of_ble_eq_true rfl) ?_
  show AW X (RX11, cX11_lines, 2, (some .int), false, true, fr + 12) 0 0 0 [(0, .ref 89), (1, .int 2)] [] M _
  refine a_aload_n dX11_lines_0 rfl rfl ?_
  refine a_iconst (v := 0) dX11_lines_1 (by decide) ?_
  refine a_putI dX11_lines_2 (Or.inl ⟨fl_11_1, Or.inl rfl⟩) rfl (cm_l h0 (by decide)) (cm_s h0 (by decide) rfl) rfl rfl ?_
  have h1 : Cm (up2 fs42 89 0 0) (wI M 89 0 0) := cm_I h0 (by decide)
  generalize (wI M 89 0 0) = M1 at h1 ⊢
  refine a_iload_n dX11_lines_5 rfl rfl ?_
  refine a_callS (As := [.int 2]) (st := []) (bc := 0) (bs := 0) (mc := 0) (ms := 0) false dX11_lines_6 mw_X11_isSlot rfl (Or.inl ⟨rfl, ml_X11_271⟩) sm_X11_isSlot rfl (Nat.le_of_ble_eq_true rfl) (z2037_X11_isSlot (fr := fr)  h1) (fun v M2 hq => ?_)
  obtain ⟨rfl, h2⟩ := hq
  show AW X _ 0 0 9 _ [.int 1] _ _
  refine a_if_ne 15 dX11_lines_9 (by decide) (fun _ => ?_) (fun c => absurd c (by decide))
  refine a_aload_n dX11_lines_15 rfl rfl ?_
  refine a_iload_n dX11_lines_16 rfl rfl ?_
  refine a_callV (As := [.int 2]) (st := []) (a := 89) (ci := 11) (bc := 0) (bs := 0) (mc := 0) (ms := 0) false dX11_lines_17 mw_X11_isEmpty rfl (Or.inl ⟨rfl, ml_X11_343⟩) im_X11_isEmpty se_X11_isEmpty (by decide) (cm_l h2 (by decide)) (cm_s h2 (by decide) rfl) rfl (Nat.le_of_ble_eq_true rfl) (z2041_X11_isEmpty (fr := fr)  h2) (fun v M3 hq => ?_)
  obtain ⟨rfl, h3⟩ := hq
  show AW X _ 0 0 20 _ [.int 1] _ _
  refine a_if_eq 26 dX11_lines_20 (by decide) (fun c => absurd c (by decide)) (fun _ => ?_)
  refine a_bipush (v := (-5)) dX11_lines_23 (by decide) ?_
  exact a_iret dX11_lines_25 rfl ⟨by first | rfl | decide +kernel | simp [*], trivial⟩
set_option maxHeartbeats 4000000 in
set_option maxRecDepth 100000 in
theorem q_lines_3 {X : Nat × (Nat → Int32)} {fr : Nat} {M : Mem}  (h0 : Cm fs42 M) : AM yX11_lines cX11_lines 2 (some .int) true (fr + 12) 0 0 X [.ref 89, .int 3] M (fun v M1 => v = some (.int (-5)) ∧ True) := by
  refine AM.of false (by decide +kernel) (by intro h; cases h) (Nat.le_of_ble_eq_true rfl) ?_
  show AW X (RX11, cX11_lines, 2, (some .int), false, true, fr + 12) 0 0 0 [(0, .ref 89), (1, .int 3)] [] M _
  refine a_aload_n dX11_lines_0 rfl rfl ?_
  refine a_iconst (v := 0) dX11_lines_1 (by decide) ?_
  refine a_putI dX11_lines_2 (Or.inl ⟨fl_11_1, Or.inl rfl⟩) rfl (cm_l h0 (by decide)) (cm_s h0 (by decide) rfl) rfl rfl ?_
  have h1 : Cm (up2 fs42 89 0 0) (wI M 89 0 0) := cm_I h0 (by decide)
  generalize (wI M 89 0 0) = M1 at h1 ⊢
  refine a_iload_n dX11_lines_5 rfl rfl ?_
  refine a_callS (As := [.int 3]) (st := []) (bc := 0) (bs := 0) (mc := 0) (ms := 0) false dX11_lines_6 mw_X11_isSlot rfl (Or.inl ⟨rfl, ml_X11_271⟩) sm_X11_isSlot rfl (Nat.le_of_ble_eq_true rfl) (z2038_X11_isSlot (fr := fr)  h1) (fun v M2 hq => ?_)
  obtain ⟨rfl, h2⟩ := hq
  show AW X _ 0 0 9 _ [.int 1] _ _
  refine a_if_ne 15 dX11_lines_9 (by decide) (fun _ => ?_) (fun c => absurd c (by decide))
  refine a_aload_n dX11_lines_15 rfl rfl ?_
  refine a_iload_n dX11_lines_16 rfl rfl ?_
  refine a_callV (As := [.int 3]) (st := []) (a := 89) (ci := 11) (bc := 0) (bs := 0) (mc := 0) (ms := 0) false dX11_lines_17 mw_X11_isEmpty rfl (Or.inl ⟨rfl, ml_X11_343⟩) im_X11_isEmpty se_X11_isEmpty (by decide) (cm_l h2 (by decide)) (cm_s h2 (by decide) rfl) rfl (Nat.le_of_ble_eq_true rfl) (z2042_X11_isEmpty (fr := fr)  h2) (fun v M3 hq => ?_)
  obtain ⟨rfl, h3⟩ := hq
  show AW X _ 0 0 20 _ [.int 1] _ _
  refine a_if_eq 26 dX11_lines_20 (by decide) (fun c => absurd c (by decide)) (fun _ => ?_)
  refine a_bipush (v := (-5)) dX11_lines_23 (by decide) ?_
  exact a_iret dX11_lines_25 rfl ⟨by first | rfl | decide +kernel | simp [*], trivial⟩
set_option maxHeartbeats 4000000 in
set_option maxRecDepth 100000 in
theorem q_side_b {X : Nat × (Nat → Int32)} {fr : Nat} {M : Mem} (x : Int32) (hb_x : x < 0 ∨ 4 ≤ x) (h0 : Cm fs42 M) : AM yX11_side cX11_side 3 (some .int) true (fr + 12) 0 0 X [.ref 89, .int x] M (fun v M1 => v = some (.int (-2)) ∧ True) := by
  refine AM.of false (by decide +kernel) (by intro h; cases h) (Nat.le_of_ble_eq_true rfl) ?_
  show AW X (RX11, cX11_side, 3, (some .int), false, true, fr + 12) 0 0 0 [(0, .ref 89), (1, .int x)] [] M _
  refine a_aload_n dX11_side_0 rfl rfl ?_
  refine a_iconst (v := 0) dX11_side_1 (by decide) ?_
  refine a_putI dX11_side_2 (Or.inl ⟨fl_11_1, Or.inl rfl⟩) rfl (cm_l h0 (by decide)) (cm_s h0 (by decide) rfl) rfl rfl ?_
  have h1 : Cm (up2 fs42 89 0 0) (wI M 89 0 0) := cm_I h0 (by decide)
  generalize (wI M 89 0 0) = M1 at h1 ⊢
  refine a_iload_n dX11_side_5 rfl rfl ?_
  refine a_callS (As := [.int x]) (st := []) (bc := 0) (bs := 0) (mc := 0) (ms := 0) false dX11_side_6 mw_X11_isSlot rfl (Or.inl ⟨rfl, ml_X11_271⟩) sm_X11_isSlot rfl (Nat.le_of_ble_eq_true rfl) (z2034_X11_isSlot (fr := fr) x hb_x h1) (fun v M2 hq => ?_)
  obtain ⟨rfl, h2⟩ := hq
  show AW X _ 0 0 9 _ [.int 0] _ _
  refine a_if_ne 15 dX11_side_9 (by decide) (fun c => absurd (by decide) c) (fun _ => ?_)
  refine a_bipush (v := (-2)) dX11_side_12 (by decide) ?_
  exact a_iret dX11_side_14 rfl ⟨by first | rfl | decide +kernel | simp [*], trivial⟩
set_option maxHeartbeats 4000000 in
set_option maxRecDepth 100000 in
theorem q_side_0 {X : Nat × (Nat → Int32)} {fr : Nat} {M : Mem}  (h0 : Cm fs42 M) : AM yX11_side cX11_side 3 (some .int) true (fr + 12) 0 0 X [.ref 89, .int 0] M (fun v M1 => v = some (.int (-5)) ∧ True) := by
  refine AM.of false (by decide +kernel) (by intro h; cases h) (Nat.le_of_ble_eq_true rfl) ?_
  show AW X (RX11, cX11_side, 3, (some .int), false, true, fr + 12) 0 0 0 [(0, .ref 89), (1, .int 0)] [] M _
  refine a_aload_n dX11_side_0 rfl rfl ?_
  refine a_iconst (v := 0) dX11_side_1 (by decide) ?_
  refine a_putI dX11_side_2 (Or.inl ⟨fl_11_1, Or.inl rfl⟩) rfl (cm_l h0 (by decide)) (cm_s h0 (by decide) rfl) rfl rfl ?_
  have h1 : Cm (up2 fs42 89 0 0) (wI M 89 0 0) := cm_I h0 (by decide)
  generalize (wI M 89 0 0) = M1 at h1 ⊢
  refine a_iload_n dX11_side_5 rfl rfl ?_
  refine a_callS (As := [.int 0]) (st := []) (bc := 0) (bs := 0) (mc := 0) (ms := 0) false dX11_side_6 mw_X11_isSlot rfl (Or.inl ⟨rfl, ml_X11_271⟩) sm_X11_isSlot rfl (Nat.le_of_ble_eq_true rfl) (z2035_X11_isSlot (fr := fr)  h1) (fun v M2 hq => ?_)
  obtain ⟨rfl, h2⟩ := hq
  show AW X _ 0 0 9 _ [.int 1] _ _
  refine a_if_ne 15 dX11_side_9 (by decide) (fun _ => ?_) (fun c => absurd c (by decide))
  refine a_aload_n dX11_side_15 rfl rfl ?_
  refine a_iload_n dX11_side_16 rfl rfl ?_
  refine a_callV (As := [.int 0]) (st := []) (a := 89) (ci := 11) (bc := 0) (bs := 0) (mc := 0) (ms := 0) false dX11_side_17 mw_X11_isEmpty rfl (Or.inl ⟨rfl, ml_X11_343⟩) im_X11_isEmpty se_X11_isEmpty (by decide) (cm_l h2 (by decide)) (cm_s h2 (by decide) rfl) rfl (Nat.le_of_ble_eq_true rfl) (z2039_X11_isEmpty (fr := fr)  h2) (fun v M3 hq => ?_)
  obtain ⟨rfl, h3⟩ := hq
  show AW X _ 0 0 20 _ [.int 1] _ _
  refine a_if_eq 26 dX11_side_20 (by decide) (fun c => absurd c (by decide)) (fun _ => ?_)
  refine a_bipush (v := (-5)) dX11_side_23 (by decide) ?_
  exact a_iret dX11_side_25 rfl ⟨by first | rfl | decide +kernel | simp [*], trivial⟩
set_option maxHeartbeats 4000000 in
set_option maxRecDepth 100000 in
theorem q_side_1 {X : Nat × (Nat → Int32)} {fr : Nat} {M : Mem}  (h0 : Cm fs42 M) : AM yX11_side cX11_side 3 (some .int) true (fr + 12) 0 0 X [.ref 89, .int 1] M (fun v M1 => v = some (.int (-5)) ∧ True) := by
  refine AM.of false (by decide +kernel) (by intro h; cases h) (Nat.le_of_ble_eq_true rfl) ?_
  show AW X (RX11, cX11_side, 3, (some .int), false, true, fr + 12) 0 0 0 [(0, .ref 89), (1, .int 1)] [] M _
  refine a_aload_n dX11_side_0 rfl rfl ?_
  refine a_iconst (v := 0) dX11_side_1 (by decide) ?_
  refine a_putI dX11_side_2 (Or.inl ⟨fl_11_1, Or.inl rfl⟩) rfl (cm_l h0 (by decide)) (cm_s h0 (by decide) rfl) rfl rfl ?_
  have h1 : Cm (up2 fs42 89 0 0) (wI M 89 0 0) := cm_I h0 (by decide)
  generalize (wI M 89 0 0) = M1 at h1 ⊢
  refine a_iload_n dX11_side_5 rfl rfl ?_
  refine a_callS (As := [.int 1]) (st := []) (bc := 0) (bs := 0) (mc := 0) (ms := 0) false dX11_side_6 mw_X11_isSlot rfl (Or.inl ⟨rfl, ml_X11_271⟩) sm_X11_isSlot rfl (Nat.le_of_ble_eq_true rfl) (z2036_X11_isSlot (fr := fr)  h1) (fun v M2 hq => ?_)
  obtain ⟨rfl, h2⟩ := hq
  show AW X _ 0 0 9 _ [.int 1] _ _
  refine a_if_ne 15 dX11_side_9 (by decide) (fun _ => ?_) (fun c => absurd c (by decide))
  refine a_aload_n dX11_side_15 rfl rfl ?_
  refine a_iload_n dX11_side_16 rfl rfl ?_
  refine a_callV (As := [.int 1]) (st := []) (a := 89) (ci := 11) (bc := 0) (bs := 0) (mc := 0) (ms := 0) false dX11_side_17 mw_X11_isEmpty rfl (Or.inl ⟨rfl, ml_X11_343⟩) im_X11_isEmpty se_X11_isEmpty (by decide) (cm_l h2 (by decide)) (cm_s h2 (by decide) rfl) rfl (Nat.le_of_ble_eq_true rfl) (z2040_X11_isEmpty (fr := fr)  h2) (fun v M3 hq => ?_)
  obtain ⟨rfl, h3⟩ := hq
  show AW X _ 0 0 20 _ [.int 1] _ _
  refine a_if_eq 26 dX11_side_20 (by decide) (fun c => absurd c (by decide)) (fun _ => ?_)
  refine a_bipush (v := (-5)) dX11_side_23 (by decide) ?_
  exact a_iret dX11_side_25 rfl ⟨by first | rfl | decide +kernel | simp [*], trivial⟩
set_option maxHeartbeats 4000000 in
set_option maxRecDepth 100000 in
theorem q_side_2 {X : Nat × (Nat → Int32)} {fr : Nat} {M : Mem}  (h0 : Cm fs42 M) : AM yX11_side cX11_side 3 (some .int) true (fr + 12) 0 0 X [.ref 89, .int 2] M (fun v M1 => v = some (.int (-5)) ∧ True) := by
  refine AM.of false (by decide +kernel) (by intro h; cases h) (Nat.le_of_ble_eq_true rfl) ?_
  show AW X (RX11, cX11_side, 3, (some .int), false, true, fr + 12) 0 0 0 [(0, .ref 89), (1, .int 2)] [] M _
  refine a_aload_n dX11_side_0 rfl rfl ?_
  refine a_iconst (v := 0) dX11_side_1 (by decide) ?_
  refine a_putI dX11_side_2 (Or.inl ⟨fl_11_1, Or.inl rfl⟩) rfl (cm_l h0 (by decide)) (cm_s h0 (by decide) rfl) rfl rfl ?_
  have h1 : Cm (up2 fs42 89 0 0) (wI M 89 0 0) := cm_I h0 (by decide)
  generalize (wI M 89 0 0) = M1 at h1 ⊢
  refine a_iload_n dX11_side_5 rfl rfl ?_
  refine a_callS (As := [.int 2]) (st := []) (bc := 0) (bs := 0) (mc := 0) (ms := 0) false dX11_side_6 mw_X11_isSlot rfl (Or.inl ⟨rfl, ml_X11_271⟩) sm_X11_isSlot rfl (Nat.le_of_ble_eq_true rfl) (z2037_X11_isSlot (fr := fr)  h1) (fun v M2 hq => ?_)
  obtain ⟨rfl, h2⟩ := hq
  show AW X _ 0 0 9 _ [.int 1] _ _
  refine a_if_ne 15 dX11_side_9 (by decide) (fun _ => ?_) (fun c => absurd c (by decide))
  refine a_aload_n dX11_side_15 rfl rfl ?_
  refine a_iload_n dX11_side_16 rfl rfl ?_
  refine a_callV (As := [.int 2]) (st := []) (a := 89) (ci := 11) (bc := 0) (bs := 0) (mc := 0) (ms := 0) false dX11_side_17 mw_X11_isEmpty rfl (Or.inl ⟨rfl, ml_X11_343⟩) im_X11_isEmpty se_X11_isEmpty (by decide) (cm_l h2 (by decide)) (cm_s h2 (by decide) rfl) rfl (Nat.le_of_ble_eq_true rfl) (z2041_X11_isEmpty (fr := fr)  h2) (fun v M3 hq => ?_)
  obtain ⟨rfl, h3⟩ := hq
  show AW X _ 0 0 20 _ [.int 1] _ _
  refine a_if_eq 26 dX11_side_20 (by decide) (fun c => absurd c (by decide)) (fun _ => ?_)
  refine a_bipush (v := (-5)) dX11_side_23 (by decide) ?_
  exact a_iret dX11_side_25 rfl ⟨by first | rfl | decide +kernel | simp [*], trivial⟩
set_option maxHeartbeats 4000000 in
set_option maxRecDepth 100000 in
theorem q_side_3 {X : Nat × (Nat → Int32)} {fr : Nat} {M : Mem}  (h0 : Cm fs42 M) : AM yX11_side cX11_side 3 (some .int) true (fr + 12) 0 0 X [.ref 89, .int 3] M (fun v M1 => v = some (.int (-5)) ∧ True) := by
  refine AM.of false (by decide +kernel) (by intro h; cases h) (Nat.le_of_ble_eq_true rfl) ?_
  show AW X (RX11, cX11_side, 3, (some .int), false, true, fr + 12) 0 0 0 [(0, .ref 89), (1, .int 3)] [] M _
  refine a_aload_n dX11_side_0 rfl rfl ?_
  refine a_iconst (v := 0) dX11_side_1 (by decide) ?_
  refine a_putI dX11_side_2 (Or.inl ⟨fl_11_1, Or.inl rfl⟩) rfl (cm_l h0 (by decide)) (cm_s h0 (by decide) rfl) rfl rfl ?_
  have h1 : Cm (up2 fs42 89 0 0) (wI M 89 0 0) := cm_I h0 (by decide)
  generalize (wI M 89 0 0) = M1 at h1 ⊢
  refine a_iload_n dX11_side_5 rfl rfl ?_
  refine a_callS (As := [.int 3]) (st := []) (bc := 0) (bs := 0) (mc := 0) (ms := 0) false dX11_side_6 mw_X11_isSlot rfl (Or.inl ⟨rfl, ml_X11_271⟩) sm_X11_isSlot rfl (Nat.le_of_ble_eq_true rfl) (z2038_X11_isSlot (fr := fr)  h1) (fun v M2 hq => ?_)
  obtain ⟨rfl, h2⟩ := hq
  show AW X _ 0 0 9 _ [.int 1] _ _
  refine a_if_ne 15 dX11_side_9 (by decide) (fun _ => ?_) (fun c => absurd c (by decide))
  refine a_aload_n dX11_side_15 rfl rfl ?_
  refine a_iload_n dX11_side_16 rfl rfl ?_
  refine a_callV (As := [.int 3]) (st := []) (a := 89) (ci := 11) (bc := 0) (bs := 0) (mc := 0) (ms := 0) false dX11_side_17 mw_X11_isEmpty rfl (Or.inl ⟨rfl, ml_X11_343⟩) im_X11_isEmpty se_X11_isEmpty (by decide) (cm_l h2 (by decide)) (cm_s h2 (by decide) rfl) rfl (Nat.le_of_ble_eq_true rfl) (z2042_X11_isEmpty (fr := fr)  h2) (fun v M3 hq => ?_)
  obtain ⟨rfl, h3⟩ := hq
  show AW X _ 0 0 20 _ [.int 1] _ _
  refine a_if_eq 26 dX11_side_20 (by decide) (fun c => absurd c (by decide)) (fun _ => ?_)
  refine a_bipush (v := (-5)) dX11_side_23 (by decide) ?_
  exact a_iret dX11_side_25 rfl ⟨by first | rfl | decide +kernel | simp [*], trivial⟩
set_option maxHeartbeats 4000000 in
set_option maxRecDepth 100000 in
theorem z2043_X11_isSlot {X : Nat × (Nat → Int32)} {fr : Nat} {M : Mem} (x : Int32) (w : Int32) (i : Int32) (hb_x : x < 0 ∨ 4 ≤ x) (h0 : Cm (up2 fs42 89 0 0) M) : AM yX11_isSlot cX11_isSlot 1 (some .boolean) true (fr + 11) 0 0 X [.int x] M (fun v M1 => v = some (.int 0) ∧ Cm (up2 fs42 89 0 0) M1) := by
  refine AM.of false (by decide +kernel) (by intro h; cases h) (Nat.le_of_ble_eq_true rfl) ?_
  show AW X (RX11, cX11_isSlot, 1, (some .boolean), false, true, fr + 11) 0 0 0 [(0, .int x)] [] M _
  refine a_iload_n dX11_isSlot_0 rfl rfl ?_
  refine a_i2l dX11_isSlot_1 ?_
  refine a_lconst (v := 0) dX11_isSlot_2 (by decide) ?_
  refine a_ldc2 dX11_isSlot_3 co_X11_281 ?_
  refine a_callS (As := [.long (Int32.toInt64 x), .long 0, .long 3]) (st := []) (bc := 0) (bs := 0) (mc := 0) (ms := 0) false dX11_isSlot_6 mw_X11_isIn rfl (Or.inl ⟨rfl, ml_X11_180⟩) sm_X11_isIn rfl (Nat.le_of_ble_eq_true rfl) (k_isIn (fr := fr + 10) (Int32.toInt64 x) 0 3) (fun v M1 hq => ?_)
  obtain ⟨rfl, hM1⟩ := hq
  rw [hM1]
  clear hM1 M1
  refine a_st (st2 := [.int 0]) (by exact congrArg (fun z => Value.int z :: []) ((isin_s x).trans (if_pos hb_x))) ?_
  exact a_zret dX11_isSlot_9 rfl (by first | decide | (split <;> rfl)) ⟨rfl, h0⟩
set_option maxHeartbeats 4000000 in
set_option maxRecDepth 100000 in
theorem q_spell_b {X : Nat × (Nat → Int32)} {fr : Nat} {M : Mem} (x : Int32) (w : Int32) (i : Int32) (hb_x : x < 0 ∨ 4 ≤ x) (h0 : Cm fs42 M) : AM yX11_spell cX11_spell 4 (some .int) true (fr + 12) 0 0 X [.ref 89, .int x, .int w, .int i] M (fun v M1 => v = some (.int (-2)) ∧ True) := by
  refine AM.of false (by decide +kernel) (by intro h; cases h) (Nat.le_of_ble_eq_true rfl) ?_
  show AW X (RX11, cX11_spell, 4, (some .int), false, true, fr + 12) 0 0 0 [(0, .ref 89), (1, .int x), (2, .int w), (3, .int i)] [] M _
  refine a_aload_n dX11_spell_0 rfl rfl ?_
  refine a_iconst (v := 0) dX11_spell_1 (by decide) ?_
  refine a_putI dX11_spell_2 (Or.inl ⟨fl_11_1, Or.inl rfl⟩) rfl (cm_l h0 (by decide)) (cm_s h0 (by decide) rfl) rfl rfl ?_
  have h1 : Cm (up2 fs42 89 0 0) (wI M 89 0 0) := cm_I h0 (by decide)
  generalize (wI M 89 0 0) = M1 at h1 ⊢
  refine a_iload_n dX11_spell_5 rfl rfl ?_
  refine a_callS (As := [.int x]) (st := []) (bc := 0) (bs := 0) (mc := 0) (ms := 0) false dX11_spell_6 mw_X11_isSlot rfl (Or.inl ⟨rfl, ml_X11_271⟩) sm_X11_isSlot rfl (Nat.le_of_ble_eq_true rfl) (z2043_X11_isSlot (fr := fr) x w i hb_x h1) (fun v M2 hq => ?_)
  obtain ⟨rfl, h2⟩ := hq
  show AW X _ 0 0 9 _ [.int 0] _ _
  refine a_if_eq 24 dX11_spell_9 (by decide) (fun _ => ?_) (fun c => absurd (by decide) c)
  refine a_bipush (v := (-2)) dX11_spell_24 (by decide) ?_
  exact a_iret dX11_spell_26 rfl ⟨by first | rfl | decide +kernel | simp [*], trivial⟩
set_option maxHeartbeats 4000000 in
set_option maxRecDepth 100000 in
theorem z2044_X11_isSlot {X : Nat × (Nat → Int32)} {fr : Nat} {M : Mem} (w : Int32) (i : Int32) (h0 : Cm (up2 fs42 89 0 0) M) : AM yX11_isSlot cX11_isSlot 1 (some .boolean) true (fr + 11) 0 0 X [.int 0] M (fun v M1 => v = some (.int 1) ∧ Cm (up2 fs42 89 0 0) M1) := by
  refine AM.of false (by decide +kernel) (by intro h; cases h) (Nat.le_of_ble_eq_true rfl) ?_
  show AW X (RX11, cX11_isSlot, 1, (some .boolean), false, true, fr + 11) 0 0 0 [(0, .int 0)] [] M _
  refine a_iload_n dX11_isSlot_0 rfl rfl ?_
  refine a_i2l dX11_isSlot_1 ?_
  refine a_st (st2 := [.long 0]) (by first | decide +kernel | (refine congrArg (fun z => Value.int z :: []) ?_; decide +kernel) | (refine congrArg (fun z => Value.long z :: []) ?_; decide +kernel)) ?_
  refine a_lconst (v := 0) dX11_isSlot_2 (by decide) ?_
  refine a_ldc2 dX11_isSlot_3 co_X11_281 ?_
  refine a_callS (As := [.long 0, .long 0, .long 3]) (st := []) (bc := 0) (bs := 0) (mc := 0) (ms := 0) false dX11_isSlot_6 mw_X11_isIn rfl (Or.inl ⟨rfl, ml_X11_180⟩) sm_X11_isIn rfl (Nat.le_of_ble_eq_true rfl) (k_isIn (fr := fr + 10) 0 0 3) (fun v M1 hq => ?_)
  obtain ⟨rfl, hM1⟩ := hq
  rw [hM1]
  clear hM1 M1
  refine a_st (st2 := [.int 1]) (by first | decide +kernel | (refine congrArg (fun z => Value.int z :: []) ?_; decide +kernel) | (refine congrArg (fun z => Value.long z :: []) ?_; decide +kernel)) ?_
  exact a_zret dX11_isSlot_9 rfl (by first | decide | (split <;> rfl)) ⟨rfl, h0⟩
set_option maxHeartbeats 4000000 in
set_option maxRecDepth 100000 in
theorem z2045_X11_isEmpty {X : Nat × (Nat → Int32)} {fr : Nat} {M : Mem} (w : Int32) (i : Int32) (h0 : Cm (up2 fs42 89 0 0) M) : AM yX11_isEmpty cX11_isEmpty 2 (some .boolean) true (fr + 11) 0 0 X [.ref 89, .int 0] M (fun v M1 => v = some (.int 1) ∧ Cm (up2 fs42 89 0 0) M1) := by
  refine AM.of false (by decide +kernel) (by intro h; cases h) (Nat.le_of_ble_eq_true rfl) ?_
  show AW X (RX11, cX11_isEmpty, 2, (some .boolean), false, true, fr + 11) 0 0 0 [(0, .ref 89), (1, .int 0)] [] M _
  refine a_aload_n dX11_isEmpty_0 rfl rfl ?_
  refine a_get (v := .ref 104) dX11_isEmpty_1 fl_11_56 (cm_l h0 (by decide)) (cm_s h0 (by decide) rfl) (cm_g h0 rfl (by decide +kernel)) ?_
  refine a_iload_n dX11_isEmpty_4 rfl rfl ?_
  refine a_iaload dX11_isEmpty_5 (cm_l h0 (by decide)) (cm_s h0 (by decide) rfl) (by unfold vp_in; decide +kernel) ?_
  rw [show M.2.2.1 104 (Int32.toNatClampNeg 0) = 0 from (cm_i h0 (by decide)).trans (by first | decide +kernel | rfl)]
  refine a_if_ne 13 dX11_isEmpty_6 (by decide) (fun c => absurd (by decide) c) (fun _ => ?_)
  refine a_iconst (v := 1) dX11_isEmpty_9 (by decide) ?_
  refine a_goto 14 dX11_isEmpty_10 (by decide) ?_
  exact a_zret dX11_isEmpty_14 rfl (by first | decide | (split <;> rfl)) ⟨rfl, h0⟩
set_option maxHeartbeats 4000000 in
set_option maxRecDepth 100000 in
theorem q_spell_0 {X : Nat × (Nat → Int32)} {fr : Nat} {M : Mem} (w : Int32) (i : Int32) (h0 : Cm fs42 M) : AM yX11_spell cX11_spell 4 (some .int) true (fr + 12) 0 0 X [.ref 89, .int 0, .int w, .int i] M (fun v M1 => v = some (.int (if w < 0 then -2 else if w ≤ 2 then (if 0 ≤ i then -5 else -3) else -2)) ∧ True) := by
  refine AM.of false (by decide +kernel) (by intro h; cases h) (Nat.le_of_ble_eq_true rfl) ?_
  show AW X (RX11, cX11_spell, 4, (some .int), false, true, fr + 12) 0 0 0 [(0, .ref 89), (1, .int 0), (2, .int w), (3, .int i)] [] M _
  refine a_aload_n dX11_spell_0 rfl rfl ?_
  refine a_iconst (v := 0) dX11_spell_1 (by decide) ?_
  refine a_putI dX11_spell_2 (Or.inl ⟨fl_11_1, Or.inl rfl⟩) rfl (cm_l h0 (by decide)) (cm_s h0 (by decide) rfl) rfl rfl ?_
  have h1 : Cm (up2 fs42 89 0 0) (wI M 89 0 0) := cm_I h0 (by decide)
  generalize (wI M 89 0 0) = M1 at h1 ⊢
  refine a_iload_n dX11_spell_5 rfl rfl ?_
  refine a_callS (As := [.int 0]) (st := []) (bc := 0) (bs := 0) (mc := 0) (ms := 0) false dX11_spell_6 mw_X11_isSlot rfl (Or.inl ⟨rfl, ml_X11_271⟩) sm_X11_isSlot rfl (Nat.le_of_ble_eq_true rfl) (z2044_X11_isSlot (fr := fr) w i h1) (fun v M2 hq => ?_)
  obtain ⟨rfl, h2⟩ := hq
  show AW X _ 0 0 9 _ [.int 1] _ _
  refine a_if_eq 24 dX11_spell_9 (by decide) (fun c => absurd c (by decide)) (fun _ => ?_)
  refine a_iload_n dX11_spell_12 rfl rfl ?_
  refine a_i2l dX11_spell_13 ?_
  refine a_lconst (v := 0) dX11_spell_14 (by decide) ?_
  refine a_ldc2 dX11_spell_15 co_X11_392 ?_
  refine a_callS (As := [.long (Int32.toInt64 w), .long 0, .long 2]) (st := []) (bc := 0) (bs := 0) (mc := 0) (ms := 0) false dX11_spell_18 mw_X11_isIn rfl (Or.inl ⟨rfl, ml_X11_180⟩) sm_X11_isIn rfl (Nat.le_of_ble_eq_true rfl) (k_isIn (fr := fr + 11) (Int32.toInt64 w) 0 2) (fun v M1 hq => ?_)
  obtain ⟨rfl, hM1⟩ := hq
  rw [hM1]
  clear hM1 M1
  refine a_st (st2 := [.int (if w < 0 then 0 else if w ≤ 2 then 1 else 0)]) (by exact congrArg (fun z => Value.int z :: []) (isin_w w 2)) ?_
  refine a_if_ne 27 dX11_spell_21 (by decide) (fun c3 => ?_) (fun c3 => ?_)
  · refine a_iload_n dX11_spell_27 rfl rfl ?_
    refine a_if_ge 34 dX11_spell_28 (by decide) (fun c4 => ?_) (fun c4 => ?_)
    · refine a_aload_n dX11_spell_34 rfl rfl ?_
      refine a_iload_n dX11_spell_35 rfl rfl ?_
      refine a_callV (As := [.int 0]) (st := []) (a := 89) (ci := 11) (bc := 0) (bs := 0) (mc := 0) (ms := 0) false dX11_spell_36 mw_X11_isEmpty rfl (Or.inl ⟨rfl, ml_X11_343⟩) im_X11_isEmpty se_X11_isEmpty (by decide) (cm_l h2 (by decide)) (cm_s h2 (by decide) rfl) rfl (Nat.le_of_ble_eq_true rfl) (z2045_X11_isEmpty (fr := fr) w i h2) (fun v M5 hq => ?_)
      obtain ⟨rfl, h5⟩ := hq
      show AW X _ 0 0 39 _ [.int 1] _ _
      refine a_if_eq 45 dX11_spell_39 (by decide) (fun c => absurd c (by decide)) (fun _ => ?_)
      refine a_bipush (v := (-5)) dX11_spell_42 (by decide) ?_
      exact a_iret dX11_spell_44 rfl ⟨by solve | rfl | (by_cases q0 : w < 0 <;> by_cases q1 : w ≤ 2 <;> by_cases q2 : 0 ≤ i <;> simp_all [-Int32.not_lt, -Int32.not_le]), trivial⟩
    · refine a_bipush (v := (-3)) dX11_spell_31 (by decide) ?_
      exact a_iret dX11_spell_33 rfl ⟨by solve | rfl | (by_cases q0 : w < 0 <;> by_cases q1 : w ≤ 2 <;> by_cases q2 : 0 ≤ i <;> simp_all [-Int32.not_lt, -Int32.not_le]), trivial⟩
  · refine a_bipush (v := (-2)) dX11_spell_24 (by decide) ?_
    exact a_iret dX11_spell_26 rfl ⟨by solve | rfl | (by_cases q0 : w < 0 <;> by_cases q1 : w ≤ 2 <;> by_cases q2 : 0 ≤ i <;> simp_all [-Int32.not_lt, -Int32.not_le]), trivial⟩
set_option maxHeartbeats 4000000 in
set_option maxRecDepth 100000 in
theorem z2046_X11_isSlot {X : Nat × (Nat → Int32)} {fr : Nat} {M : Mem} (w : Int32) (i : Int32) (h0 : Cm (up2 fs42 89 0 0) M) : AM yX11_isSlot cX11_isSlot 1 (some .boolean) true (fr + 11) 0 0 X [.int 1] M (fun v M1 => v = some (.int 1) ∧ Cm (up2 fs42 89 0 0) M1) := by
  refine AM.of false (by decide +kernel) (by intro h; cases h) (Nat.le_of_ble_eq_true rfl) ?_
  show AW X (RX11, cX11_isSlot, 1, (some .boolean), false, true, fr + 11) 0 0 0 [(0, .int 1)] [] M _
  refine a_iload_n dX11_isSlot_0 rfl rfl ?_
  refine a_i2l dX11_isSlot_1 ?_
  refine a_st (st2 := [.long 1]) (by first | decide +kernel | (refine congrArg (fun z => Value.int z :: []) ?_; decide +kernel) | (refine congrArg (fun z => Value.long z :: []) ?_; decide +kernel)) ?_
  refine a_lconst (v := 0) dX11_isSlot_2 (by decide) ?_
  refine a_ldc2 dX11_isSlot_3 co_X11_281 ?_
  refine a_callS (As := [.long 1, .long 0, .long 3]) (st := []) (bc := 0) (bs := 0) (mc := 0) (ms := 0) false dX11_isSlot_6 mw_X11_isIn rfl (Or.inl ⟨rfl, ml_X11_180⟩) sm_X11_isIn rfl (Nat.le_of_ble_eq_true rfl) (k_isIn (fr := fr + 10) 1 0 3) (fun v M1 hq => ?_)
  obtain ⟨rfl, hM1⟩ := hq
  rw [hM1]
  clear hM1 M1
  refine a_st (st2 := [.int 1]) (by first | decide +kernel | (refine congrArg (fun z => Value.int z :: []) ?_; decide +kernel) | (refine congrArg (fun z => Value.long z :: []) ?_; decide +kernel)) ?_
  exact a_zret dX11_isSlot_9 rfl (by first | decide | (split <;> rfl)) ⟨rfl, h0⟩
set_option maxHeartbeats 4000000 in
set_option maxRecDepth 100000 in
theorem z2047_X11_isEmpty {X : Nat × (Nat → Int32)} {fr : Nat} {M : Mem} (w : Int32) (i : Int32) (h0 : Cm (up2 fs42 89 0 0) M) : AM yX11_isEmpty cX11_isEmpty 2 (some .boolean) true (fr + 11) 0 0 X [.ref 89, .int 1] M (fun v M1 => v = some (.int 1) ∧ Cm (up2 fs42 89 0 0) M1) := by
  refine AM.of false (by decide +kernel) (by intro h; cases h) (Nat.le_of_ble_eq_true rfl) ?_
  show AW X (RX11, cX11_isEmpty, 2, (some .boolean), false, true, fr + 11) 0 0 0 [(0, .ref 89), (1, .int 1)] [] M _
  refine a_aload_n dX11_isEmpty_0 rfl rfl ?_
  refine a_get (v := .ref 104) dX11_isEmpty_1 fl_11_56 (cm_l h0 (by decide)) (cm_s h0 (by decide) rfl) (cm_g h0 rfl (by decide +kernel)) ?_
  refine a_iload_n dX11_isEmpty_4 rfl rfl ?_
  refine a_iaload dX11_isEmpty_5 (cm_l h0 (by decide)) (cm_s h0 (by decide) rfl) (by unfold vp_in; decide +kernel) ?_
  rw [show M.2.2.1 104 (Int32.toNatClampNeg 1) = 0 from (cm_i h0 (by decide)).trans (by first | decide +kernel | rfl)]
  refine a_if_ne 13 dX11_isEmpty_6 (by decide) (fun c => absurd (by decide) c) (fun _ => ?_)
  refine a_iconst (v := 1) dX11_isEmpty_9 (by decide) ?_
  refine a_goto 14 dX11_isEmpty_10 (by decide) ?_
  exact a_zret dX11_isEmpty_14 rfl (by first | decide | (split <;> rfl)) ⟨rfl, h0⟩
set_option maxHeartbeats 4000000 in
set_option maxRecDepth 100000 in
theorem q_spell_1 {X : Nat × (Nat → Int32)} {fr : Nat} {M : Mem} (w : Int32) (i : Int32) (h0 : Cm fs42 M) : AM yX11_spell cX11_spell 4 (some .int) true (fr + 12) 0 0 X [.ref 89, .int 1, .int w, .int i] M (fun v M1 => v = some (.int (if w < 0 then -2 else if w ≤ 2 then (if 0 ≤ i then -5 else -3) else -2)) ∧ True) := by
  refine AM.of false (by decide +kernel) (by intro h; cases h) (Nat.le_of_ble_eq_true rfl) ?_
  show AW X (RX11, cX11_spell, 4, (some .int), false, true, fr + 12) 0 0 0 [(0, .ref 89), (1, .int 1), (2, .int w), (3, .int i)] [] M _
  refine a_aload_n dX11_spell_0 rfl rfl ?_
  refine a_iconst (v := 0) dX11_spell_1 (by decide) ?_
  refine a_putI dX11_spell_2 (Or.inl ⟨fl_11_1, Or.inl rfl⟩) rfl (cm_l h0 (by decide)) (cm_s h0 (by decide) rfl) rfl rfl ?_
  have h1 : Cm (up2 fs42 89 0 0) (wI M 89 0 0) := cm_I h0 (by decide)
  generalize (wI M 89 0 0) = M1 at h1 ⊢
  refine a_iload_n dX11_spell_5 rfl rfl ?_
  refine a_callS (As := [.int 1]) (st := []) (bc := 0) (bs := 0) (mc := 0) (ms := 0) false dX11_spell_6 mw_X11_isSlot rfl (Or.inl ⟨rfl, ml_X11_271⟩) sm_X11_isSlot rfl (Nat.le_of_ble_eq_true rfl) (z2046_X11_isSlot (fr := fr) w i h1) (fun v M2 hq => ?_)
  obtain ⟨rfl, h2⟩ := hq
  show AW X _ 0 0 9 _ [.int 1] _ _
  refine a_if_eq 24 dX11_spell_9 (by decide) (fun c => absurd c (by decide)) (fun _ => ?_)
  refine a_iload_n dX11_spell_12 rfl rfl ?_
  refine a_i2l dX11_spell_13 ?_
  refine a_lconst (v := 0) dX11_spell_14 (by decide) ?_
  refine a_ldc2 dX11_spell_15 co_X11_392 ?_
  refine a_callS (As := [.long (Int32.toInt64 w), .long 0, .long 2]) (st := []) (bc := 0) (bs := 0) (mc := 0) (ms := 0) false dX11_spell_18 mw_X11_isIn rfl (Or.inl ⟨rfl, ml_X11_180⟩) sm_X11_isIn rfl (Nat.le_of_ble_eq_true rfl) (k_isIn (fr := fr + 11) (Int32.toInt64 w) 0 2) (fun v M1 hq => ?_)
  obtain ⟨rfl, hM1⟩ := hq
  rw [hM1]
  clear hM1 M1
  refine a_st (st2 := [.int (if w < 0 then 0 else if w ≤ 2 then 1 else 0)]) (by exact congrArg (fun z => Value.int z :: []) (isin_w w 2)) ?_
  refine a_if_ne 27 dX11_spell_21 (by decide) (fun c3 => ?_) (fun c3 => ?_)
  · refine a_iload_n dX11_spell_27 rfl rfl ?_
    refine a_if_ge 34 dX11_spell_28 (by decide) (fun c4 => ?_) (fun c4 => ?_)
    · refine a_aload_n dX11_spell_34 rfl rfl ?_
      refine a_iload_n dX11_spell_35 rfl rfl ?_
      refine a_callV (As := [.int 1]) (st := []) (a := 89) (ci := 11) (bc := 0) (bs := 0) (mc := 0) (ms := 0) false dX11_spell_36 mw_X11_isEmpty rfl (Or.inl ⟨rfl, ml_X11_343⟩) im_X11_isEmpty se_X11_isEmpty (by decide) (cm_l h2 (by decide)) (cm_s h2 (by decide) rfl) rfl (Nat.le_of_ble_eq_true rfl) (z2047_X11_isEmpty (fr := fr) w i h2) (fun v M5 hq => ?_)
      obtain ⟨rfl, h5⟩ := hq
      show AW X _ 0 0 39 _ [.int 1] _ _
      refine a_if_eq 45 dX11_spell_39 (by decide) (fun c => absurd c (by decide)) (fun _ => ?_)
      refine a_bipush (v := (-5)) dX11_spell_42 (by decide) ?_
      exact a_iret dX11_spell_44 rfl ⟨by solve | rfl | (by_cases q0 : w < 0 <;> by_cases q1 : w ≤ 2 <;> by_cases q2 : 0 ≤ i <;> simp_all [-Int32.not_lt, -Int32.not_le]), trivial⟩
    · refine a_bipush (v := (-3)) dX11_spell_31 (by decide) ?_
      exact a_iret dX11_spell_33 rfl ⟨by solve | rfl | (by_cases q0 : w < 0 <;> by_cases q1 : w ≤ 2 <;> by_cases q2 : 0 ≤ i <;> simp_all [-Int32.not_lt, -Int32.not_le]), trivial⟩
  · refine a_bipush (v := (-2)) dX11_spell_24 (by decide) ?_
    exact a_iret dX11_spell_26 rfl ⟨by solve | rfl | (by_cases q0 : w < 0 <;> by_cases q1 : w ≤ 2 <;> by_cases q2 : 0 ≤ i <;> simp_all [-Int32.not_lt, -Int32.not_le]), trivial⟩
set_option maxHeartbeats 4000000 in
set_option maxRecDepth 100000 in
theorem z2048_X11_isSlot {X : Nat × (Nat → Int32)} {fr : Nat} {M : Mem} (w : Int32) (i : Int32) (h0 : Cm (up2 fs42 89 0 0) M) : AM yX11_isSlot cX11_isSlot 1 (some .boolean) true (fr + 11) 0 0 X [.int 2] M (fun v M1 => v = some (.int 1) ∧ Cm (up2 fs42 89 0 0) M1) := by
  refine AM.of false (by decide +kernel) (by intro h; cases h) (Nat.le_of_ble_eq_true rfl) ?_
  show AW X (RX11, cX11_isSlot, 1, (some .boolean), false, true, fr + 11) 0 0 0 [(0, .int 2)] [] M _
  refine a_iload_n dX11_isSlot_0 rfl rfl ?_
  refine a_i2l dX11_isSlot_1 ?_
  refine a_st (st2 := [.long 2]) (by first | decide +kernel | (refine congrArg (fun z => Value.int z :: []) ?_; decide +kernel) | (refine congrArg (fun z => Value.long z :: []) ?_; decide +kernel)) ?_
  refine a_lconst (v := 0) dX11_isSlot_2 (by decide) ?_
  refine a_ldc2 dX11_isSlot_3 co_X11_281 ?_
  refine a_callS (As := [.long 2, .long 0, .long 3]) (st := []) (bc := 0) (bs := 0) (mc := 0) (ms := 0) false dX11_isSlot_6 mw_X11_isIn rfl (Or.inl ⟨rfl, ml_X11_180⟩) sm_X11_isIn rfl (Nat.le_of_ble_eq_true rfl) (k_isIn (fr := fr + 10) 2 0 3) (fun v M1 hq => ?_)
  obtain ⟨rfl, hM1⟩ := hq
  rw [hM1]
  clear hM1 M1
  refine a_st (st2 := [.int 1]) (by first | decide +kernel | (refine congrArg (fun z => Value.int z :: []) ?_; decide +kernel) | (refine congrArg (fun z => Value.long z :: []) ?_; decide +kernel)) ?_
  exact a_zret dX11_isSlot_9 rfl (by first | decide | (split <;> rfl)) ⟨rfl, h0⟩
set_option maxHeartbeats 4000000 in
set_option maxRecDepth 100000 in
theorem z2049_X11_isEmpty {X : Nat × (Nat → Int32)} {fr : Nat} {M : Mem} (w : Int32) (i : Int32) (h0 : Cm (up2 fs42 89 0 0) M) : AM yX11_isEmpty cX11_isEmpty 2 (some .boolean) true (fr + 11) 0 0 X [.ref 89, .int 2] M (fun v M1 => v = some (.int 1) ∧ Cm (up2 fs42 89 0 0) M1) := by
  refine AM.of false (by decide +kernel) (by intro h; cases h) (Nat.le_of_ble_eq_true rfl) ?_
  show AW X (RX11, cX11_isEmpty, 2, (some .boolean), false, true, fr + 11) 0 0 0 [(0, .ref 89), (1, .int 2)] [] M _
  refine a_aload_n dX11_isEmpty_0 rfl rfl ?_
  refine a_get (v := .ref 104) dX11_isEmpty_1 fl_11_56 (cm_l h0 (by decide)) (cm_s h0 (by decide) rfl) (cm_g h0 rfl (by decide +kernel)) ?_
  refine a_iload_n dX11_isEmpty_4 rfl rfl ?_
  refine a_iaload dX11_isEmpty_5 (cm_l h0 (by decide)) (cm_s h0 (by decide) rfl) (by unfold vp_in; decide +kernel) ?_
  rw [show M.2.2.1 104 (Int32.toNatClampNeg 2) = 0 from (cm_i h0 (by decide)).trans (by first | decide +kernel | rfl)]
  refine a_if_ne 13 dX11_isEmpty_6 (by decide) (fun c => absurd (by decide) c) (fun _ => ?_)
  refine a_iconst (v := 1) dX11_isEmpty_9 (by decide) ?_
  refine a_goto 14 dX11_isEmpty_10 (by decide) ?_
  exact a_zret dX11_isEmpty_14 rfl (by first | decide | (split <;> rfl)) ⟨rfl, h0⟩
set_option maxHeartbeats 4000000 in
set_option maxRecDepth 100000 in
theorem q_spell_2 {X : Nat × (Nat → Int32)} {fr : Nat} {M : Mem} (w : Int32) (i : Int32) (h0 : Cm fs42 M) : AM yX11_spell cX11_spell 4 (some .int) true (fr + 12) 0 0 X [.ref 89, .int 2, .int w, .int i] M (fun v M1 => v = some (.int (if w < 0 then -2 else if w ≤ 2 then (if 0 ≤ i then -5 else -3) else -2)) ∧ True) := by
  refine AM.of false (by decide +kernel) (by intro h; cases h) (Nat.le_of_ble_eq_true rfl) ?_
  show AW X (RX11, cX11_spell, 4, (some .int), false, true, fr + 12) 0 0 0 [(0, .ref 89), (1, .int 2), (2, .int w), (3, .int i)] [] M _
  refine a_aload_n dX11_spell_0 rfl rfl ?_
  refine a_iconst (v := 0) dX11_spell_1 (by decide) ?_
  refine a_putI dX11_spell_2 (Or.inl ⟨fl_11_1, Or.inl rfl⟩) rfl (cm_l h0 (by decide)) (cm_s h0 (by decide) rfl) rfl rfl ?_
  have h1 : Cm (up2 fs42 89 0 0) (wI M 89 0 0) := cm_I h0 (by decide)
  generalize (wI M 89 0 0) = M1 at h1 ⊢
  refine a_iload_n dX11_spell_5 rfl rfl ?_
  refine a_callS (As := [.int 2]) (st := []) (bc := 0) (bs := 0) (mc := 0) (ms := 0) false dX11_spell_6 mw_X11_isSlot rfl (Or.inl ⟨rfl, ml_X11_271⟩) sm_X11_isSlot rfl (Nat.le_of_ble_eq_true rfl) (z2048_X11_isSlot (fr := fr) w i h1) (fun v M2 hq => ?_)
  obtain ⟨rfl, h2⟩ := hq
  show AW X _ 0 0 9 _ [.int 1] _ _
  refine a_if_eq 24 dX11_spell_9 (by decide) (fun c => absurd c (by decide)) (fun _ => ?_)
  refine a_iload_n dX11_spell_12 rfl rfl ?_
  refine a_i2l dX11_spell_13 ?_
  refine a_lconst (v := 0) dX11_spell_14 (by decide) ?_
  refine a_ldc2 dX11_spell_15 co_X11_392 ?_
  refine a_callS (As := [.long (Int32.toInt64 w), .long 0, .long 2]) (st := []) (bc := 0) (bs := 0) (mc := 0) (ms := 0) false dX11_spell_18 mw_X11_isIn rfl (Or.inl ⟨rfl, ml_X11_180⟩) sm_X11_isIn rfl (Nat.le_of_ble_eq_true rfl) (k_isIn (fr := fr + 11) (Int32.toInt64 w) 0 2) (fun v M1 hq => ?_)
  obtain ⟨rfl, hM1⟩ := hq
  rw [hM1]
  clear hM1 M1
  refine a_st (st2 := [.int (if w < 0 then 0 else if w ≤ 2 then 1 else 0)]) (by exact congrArg (fun z => Value.int z :: []) (isin_w w 2)) ?_
  refine a_if_ne 27 dX11_spell_21 (by decide) (fun c3 => ?_) (fun c3 => ?_)
  · refine a_iload_n dX11_spell_27 rfl rfl ?_
    refine a_if_ge 34 dX11_spell_28 (by decide) (fun c4 => ?_) (fun c4 => ?_)
    · refine a_aload_n dX11_spell_34 rfl rfl ?_
      refine a_iload_n dX11_spell_35 rfl rfl ?_
      refine a_callV (As := [.int 2]) (st := []) (a := 89) (ci := 11) (bc := 0) (bs := 0) (mc := 0) (ms := 0) false dX11_spell_36 mw_X11_isEmpty rfl (Or.inl ⟨rfl, ml_X11_343⟩) im_X11_isEmpty se_X11_isEmpty (by decide) (cm_l h2 (by decide)) (cm_s h2 (by decide) rfl) rfl (Nat.le_of_ble_eq_true rfl) (z2049_X11_isEmpty (fr := fr) w i h2) (fun v M5 hq => ?_)
      obtain ⟨rfl, h5⟩ := hq
      show AW X _ 0 0 39 _ [.int 1] _ _
      refine a_if_eq 45 dX11_spell_39 (by decide) (fun c => absurd c (by decide)) (fun _ => ?_)
      refine a_bipush (v := (-5)) dX11_spell_42 (by decide) ?_
      exact a_iret dX11_spell_44 rfl ⟨by solve | rfl | (by_cases q0 : w < 0 <;> by_cases q1 : w ≤ 2 <;> by_cases q2 : 0 ≤ i <;> simp_all [-Int32.not_lt, -Int32.not_le]), trivial⟩
    · refine a_bipush (v := (-3)) dX11_spell_31 (by decide) ?_
      exact a_iret dX11_spell_33 rfl ⟨by solve | rfl | (by_cases q0 : w < 0 <;> by_cases q1 : w ≤ 2 <;> by_cases q2 : 0 ≤ i <;> simp_all [-Int32.not_lt, -Int32.not_le]), trivial⟩
  · refine a_bipush (v := (-2)) dX11_spell_24 (by decide) ?_
    exact a_iret dX11_spell_26 rfl ⟨by solve | rfl | (by_cases q0 : w < 0 <;> by_cases q1 : w ≤ 2 <;> by_cases q2 : 0 ≤ i <;> simp_all [-Int32.not_lt, -Int32.not_le]), trivial⟩
set_option maxHeartbeats 4000000 in
set_option maxRecDepth 100000 in
theorem z2050_X11_isSlot {X : Nat × (Nat → Int32)} {fr : Nat} {M : Mem} (w : Int32) (i : Int32) (h0 : Cm (up2 fs42 89 0 0) M) : AM yX11_isSlot cX11_isSlot 1 (some .boolean) true (fr + 11) 0 0 X [.int 3] M (fun v M1 => v = some (.int 1) ∧ Cm (up2 fs42 89 0 0) M1) := by
  refine AM.of false (by decide +kernel) (by intro h; cases h) (Nat.le_of_ble_eq_true rfl) ?_
  show AW X (RX11, cX11_isSlot, 1, (some .boolean), false, true, fr + 11) 0 0 0 [(0, .int 3)] [] M _
  refine a_iload_n dX11_isSlot_0 rfl rfl ?_
  refine a_i2l dX11_isSlot_1 ?_
  refine a_st (st2 := [.long 3]) (by first | decide +kernel | (refine congrArg (fun z => Value.int z :: []) ?_; decide +kernel) | (refine congrArg (fun z => Value.long z :: []) ?_; decide +kernel)) ?_
  refine a_lconst (v := 0) dX11_isSlot_2 (by decide) ?_
  refine a_ldc2 dX11_isSlot_3 co_X11_281 ?_
  refine a_callS (As := [.long 3, .long 0, .long 3]) (st := []) (bc := 0) (bs := 0) (mc := 0) (ms := 0) false dX11_isSlot_6 mw_X11_isIn rfl (Or.inl ⟨rfl, ml_X11_180⟩) sm_X11_isIn rfl (Nat.le_of_ble_eq_true rfl) (k_isIn (fr := fr + 10) 3 0 3) (fun v M1 hq => ?_)
  obtain ⟨rfl, hM1⟩ := hq
  rw [hM1]
  clear hM1 M1
  refine a_st (st2 := [.int 1]) (by first | decide +kernel | (refine congrArg (fun z => Value.int z :: []) ?_; decide +kernel) | (refine congrArg (fun z => Value.long z :: []) ?_; decide +kernel)) ?_
  exact a_zret dX11_isSlot_9 rfl (by first | decide | (split <;> rfl)) ⟨rfl, h0⟩
set_option maxHeartbeats 4000000 in
set_option maxRecDepth 100000 in
theorem z2051_X11_isEmpty {X : Nat × (Nat → Int32)} {fr : Nat} {M : Mem} (w : Int32) (i : Int32) (h0 : Cm (up2 fs42 89 0 0) M) : AM yX11_isEmpty cX11_isEmpty 2 (some .boolean) true (fr + 11) 0 0 X [.ref 89, .int 3] M (fun v M1 => v = some (.int 1) ∧ Cm (up2 fs42 89 0 0) M1) := by
  refine AM.of false (by decide +kernel) (by intro h; cases h) (Nat.le_of_ble_eq_true rfl) ?_
  show AW X (RX11, cX11_isEmpty, 2, (some .boolean), false, true, fr + 11) 0 0 0 [(0, .ref 89), (1, .int 3)] [] M _
  refine a_aload_n dX11_isEmpty_0 rfl rfl ?_
  refine a_get (v := .ref 104) dX11_isEmpty_1 fl_11_56 (cm_l h0 (by decide)) (cm_s h0 (by decide) rfl) (cm_g h0 rfl (by decide +kernel)) ?_
  refine a_iload_n dX11_isEmpty_4 rfl rfl ?_
  refine a_iaload dX11_isEmpty_5 (cm_l h0 (by decide)) (cm_s h0 (by decide) rfl) (by unfold vp_in; decide +kernel) ?_
  rw [show M.2.2.1 104 (Int32.toNatClampNeg 3) = 0 from (cm_i h0 (by decide)).trans (by first | decide +kernel | rfl)]
  refine a_if_ne 13 dX11_isEmpty_6 (by decide) (fun c => absurd (by decide) c) (fun _ => ?_)
  refine a_iconst (v := 1) dX11_isEmpty_9 (by decide) ?_
  refine a_goto 14 dX11_isEmpty_10 (by decide) ?_
  exact a_zret dX11_isEmpty_14 rfl (by first | decide | (split <;> rfl)) ⟨rfl, h0⟩
set_option maxHeartbeats 4000000 in
set_option maxRecDepth 100000 in
theorem q_spell_3 {X : Nat × (Nat → Int32)} {fr : Nat} {M : Mem} (w : Int32) (i : Int32) (h0 : Cm fs42 M) : AM yX11_spell cX11_spell 4 (some .int) true (fr + 12) 0 0 X [.ref 89, .int 3, .int w, .int i] M (fun v M1 => v = some (.int (if w < 0 then -2 else if w ≤ 2 then (if 0 ≤ i then -5 else -3) else -2)) ∧ True) := by
  refine AM.of false (by decide +kernel) (by intro h; cases h) (Nat.le_of_ble_eq_true rfl) ?_
  show AW X (RX11, cX11_spell, 4, (some .int), false, true, fr + 12) 0 0 0 [(0, .ref 89), (1, .int 3), (2, .int w), (3, .int i)] [] M _
  refine a_aload_n dX11_spell_0 rfl rfl ?_
  refine a_iconst (v := 0) dX11_spell_1 (by decide) ?_
  refine a_putI dX11_spell_2 (Or.inl ⟨fl_11_1, Or.inl rfl⟩) rfl (cm_l h0 (by decide)) (cm_s h0 (by decide) rfl) rfl rfl ?_
  have h1 : Cm (up2 fs42 89 0 0) (wI M 89 0 0) := cm_I h0 (by decide)
  generalize (wI M 89 0 0) = M1 at h1 ⊢
  refine a_iload_n dX11_spell_5 rfl rfl ?_
  refine a_callS (As := [.int 3]) (st := []) (bc := 0) (bs := 0) (mc := 0) (ms := 0) false dX11_spell_6 mw_X11_isSlot rfl (Or.inl ⟨rfl, ml_X11_271⟩) sm_X11_isSlot rfl (Nat.le_of_ble_eq_true rfl) (z2050_X11_isSlot (fr := fr) w i h1) (fun v M2 hq => ?_)
  obtain ⟨rfl, h2⟩ := hq
  show AW X _ 0 0 9 _ [.int 1] _ _
  refine a_if_eq 24 dX11_spell_9 (by decide) (fun c => absurd c (by decide)) (fun _ => ?_)
  refine a_iload_n dX11_spell_12 rfl rfl ?_
  refine a_i2l dX11_spell_13 ?_
  refine a_lconst (v := 0) dX11_spell_14 (by decide) ?_
  refine a_ldc2 dX11_spell_15 co_X11_392 ?_
  refine a_callS (As := [.long (Int32.toInt64 w), .long 0, .long 2]) (st := []) (bc := 0) (bs := 0) (mc := 0) (ms := 0) false dX11_spell_18 mw_X11_isIn rfl (Or.inl ⟨rfl, ml_X11_180⟩) sm_X11_isIn rfl (Nat.le_of_ble_eq_true rfl) (k_isIn (fr := fr + 11) (Int32.toInt64 w) 0 2) (fun v M1 hq => ?_)
  obtain ⟨rfl, hM1⟩ := hq
  rw [hM1]
  clear hM1 M1
  refine a_st (st2 := [.int (if w < 0 then 0 else if w ≤ 2 then 1 else 0)]) (by exact congrArg (fun z => Value.int z :: []) (isin_w w 2)) ?_
  refine a_if_ne 27 dX11_spell_21 (by decide) (fun c3 => ?_) (fun c3 => ?_)
  · refine a_iload_n dX11_spell_27 rfl rfl ?_
    refine a_if_ge 34 dX11_spell_28 (by decide) (fun c4 => ?_) (fun c4 => ?_)
    · refine a_aload_n dX11_spell_34 rfl rfl ?_
      refine a_iload_n dX11_spell_35 rfl rfl ?_
      refine a_callV (As := [.int 3]) (st := []) (a := 89) (ci := 11) (bc := 0) (bs := 0) (mc := 0) (ms := 0) false dX11_spell_36 mw_X11_isEmpty rfl (Or.inl ⟨rfl, ml_X11_343⟩) im_X11_isEmpty se_X11_isEmpty (by decide) (cm_l h2 (by decide)) (cm_s h2 (by decide) rfl) rfl (Nat.le_of_ble_eq_true rfl) (z2051_X11_isEmpty (fr := fr) w i h2) (fun v M5 hq => ?_)
      obtain ⟨rfl, h5⟩ := hq
      show AW X _ 0 0 39 _ [.int 1] _ _
      refine a_if_eq 45 dX11_spell_39 (by decide) (fun c => absurd c (by decide)) (fun _ => ?_)
      refine a_bipush (v := (-5)) dX11_spell_42 (by decide) ?_
      exact a_iret dX11_spell_44 rfl ⟨by solve | rfl | (by_cases q0 : w < 0 <;> by_cases q1 : w ≤ 2 <;> by_cases q2 : 0 ≤ i <;> simp_all [-Int32.not_lt, -Int32.not_le]), trivial⟩
    · refine a_bipush (v := (-3)) dX11_spell_31 (by decide) ?_
      exact a_iret dX11_spell_33 rfl ⟨by solve | rfl | (by_cases q0 : w < 0 <;> by_cases q1 : w ≤ 2 <;> by_cases q2 : 0 ≤ i <;> simp_all [-Int32.not_lt, -Int32.not_le]), trivial⟩
  · refine a_bipush (v := (-2)) dX11_spell_24 (by decide) ?_
    exact a_iret dX11_spell_26 rfl ⟨by solve | rfl | (by_cases q0 : w < 0 <;> by_cases q1 : w ≤ 2 <;> by_cases q2 : 0 ≤ i <;> simp_all [-Int32.not_lt, -Int32.not_le]), trivial⟩
set_option maxHeartbeats 4000000 in
set_option maxRecDepth 100000 in
theorem z2052_X11_isSlot {X : Nat × (Nat → Int32)} {fr : Nat} {M : Mem} (x : Int32) (w : Int32) (hb_x : x < 0 ∨ 4 ≤ x) (h0 : Cm (up2 fs42 89 0 0) M) : AM yX11_isSlot cX11_isSlot 1 (some .boolean) true (fr + 11) 0 0 X [.int x] M (fun v M1 => v = some (.int 0) ∧ Cm (up2 fs42 89 0 0) M1) := by
  refine AM.of false (by decide +kernel) (by intro h; cases h) (Nat.le_of_ble_eq_true rfl) ?_
  show AW X (RX11, cX11_isSlot, 1, (some .boolean), false, true, fr + 11) 0 0 0 [(0, .int x)] [] M _
  refine a_iload_n dX11_isSlot_0 rfl rfl ?_
  refine a_i2l dX11_isSlot_1 ?_
  refine a_lconst (v := 0) dX11_isSlot_2 (by decide) ?_
  refine a_ldc2 dX11_isSlot_3 co_X11_281 ?_
  refine a_callS (As := [.long (Int32.toInt64 x), .long 0, .long 3]) (st := []) (bc := 0) (bs := 0) (mc := 0) (ms := 0) false dX11_isSlot_6 mw_X11_isIn rfl (Or.inl ⟨rfl, ml_X11_180⟩) sm_X11_isIn rfl (Nat.le_of_ble_eq_true rfl) (k_isIn (fr := fr + 10) (Int32.toInt64 x) 0 3) (fun v M1 hq => ?_)
  obtain ⟨rfl, hM1⟩ := hq
  rw [hM1]
  clear hM1 M1
  refine a_st (st2 := [.int 0]) (by exact congrArg (fun z => Value.int z :: []) ((isin_s x).trans (if_pos hb_x))) ?_
  exact a_zret dX11_isSlot_9 rfl (by first | decide | (split <;> rfl)) ⟨rfl, h0⟩
set_option maxHeartbeats 4000000 in
set_option maxRecDepth 100000 in
theorem q_length_b {X : Nat × (Nat → Int32)} {fr : Nat} {M : Mem} (x : Int32) (w : Int32) (hb_x : x < 0 ∨ 4 ≤ x) (h0 : Cm fs42 M) : AM yX11_length cX11_length 3 (some .int) true (fr + 12) 0 0 X [.ref 89, .int x, .int w] M (fun v M1 => v = some (.int (-2)) ∧ True) := by
  refine AM.of false (by decide +kernel) (by intro h; cases h) (Nat.le_of_ble_eq_true rfl) ?_
  show AW X (RX11, cX11_length, 3, (some .int), false, true, fr + 12) 0 0 0 [(0, .ref 89), (1, .int x), (2, .int w)] [] M _
  refine a_aload_n dX11_length_0 rfl rfl ?_
  refine a_iconst (v := 0) dX11_length_1 (by decide) ?_
  refine a_putI dX11_length_2 (Or.inl ⟨fl_11_1, Or.inl rfl⟩) rfl (cm_l h0 (by decide)) (cm_s h0 (by decide) rfl) rfl rfl ?_
  have h1 : Cm (up2 fs42 89 0 0) (wI M 89 0 0) := cm_I h0 (by decide)
  generalize (wI M 89 0 0) = M1 at h1 ⊢
  refine a_iload_n dX11_length_5 rfl rfl ?_
  refine a_callS (As := [.int x]) (st := []) (bc := 0) (bs := 0) (mc := 0) (ms := 0) false dX11_length_6 mw_X11_isSlot rfl (Or.inl ⟨rfl, ml_X11_271⟩) sm_X11_isSlot rfl (Nat.le_of_ble_eq_true rfl) (z2052_X11_isSlot (fr := fr) x w hb_x h1) (fun v M2 hq => ?_)
  obtain ⟨rfl, h2⟩ := hq
  show AW X _ 0 0 9 _ [.int 0] _ _
  refine a_if_eq 24 dX11_length_9 (by decide) (fun _ => ?_) (fun c => absurd (by decide) c)
  refine a_bipush (v := (-2)) dX11_length_24 (by decide) ?_
  exact a_iret dX11_length_26 rfl ⟨by first | rfl | decide +kernel | simp [*], trivial⟩
set_option maxHeartbeats 4000000 in
set_option maxRecDepth 100000 in
theorem z2053_X11_isSlot {X : Nat × (Nat → Int32)} {fr : Nat} {M : Mem} (w : Int32) (h0 : Cm (up2 fs42 89 0 0) M) : AM yX11_isSlot cX11_isSlot 1 (some .boolean) true (fr + 11) 0 0 X [.int 0] M (fun v M1 => v = some (.int 1) ∧ Cm (up2 fs42 89 0 0) M1) := by
  refine AM.of false (by decide +kernel) (by intro h; cases h) (Nat.le_of_ble_eq_true rfl) ?_
  show AW X (RX11, cX11_isSlot, 1, (some .boolean), false, true, fr + 11) 0 0 0 [(0, .int 0)] [] M _
  refine a_iload_n dX11_isSlot_0 rfl rfl ?_
  refine a_i2l dX11_isSlot_1 ?_
  refine a_st (st2 := [.long 0]) (by first | decide +kernel | (refine congrArg (fun z => Value.int z :: []) ?_; decide +kernel) | (refine congrArg (fun z => Value.long z :: []) ?_; decide +kernel)) ?_
  refine a_lconst (v := 0) dX11_isSlot_2 (by decide) ?_
  refine a_ldc2 dX11_isSlot_3 co_X11_281 ?_
  refine a_callS (As := [.long 0, .long 0, .long 3]) (st := []) (bc := 0) (bs := 0) (mc := 0) (ms := 0) false dX11_isSlot_6 mw_X11_isIn rfl (Or.inl ⟨rfl, ml_X11_180⟩) sm_X11_isIn rfl (Nat.le_of_ble_eq_true rfl) (k_isIn (fr := fr + 10) 0 0 3) (fun v M1 hq => ?_)
  obtain ⟨rfl, hM1⟩ := hq
  rw [hM1]
  clear hM1 M1
  refine a_st (st2 := [.int 1]) (by first | decide +kernel | (refine congrArg (fun z => Value.int z :: []) ?_; decide +kernel) | (refine congrArg (fun z => Value.long z :: []) ?_; decide +kernel)) ?_
  exact a_zret dX11_isSlot_9 rfl (by first | decide | (split <;> rfl)) ⟨rfl, h0⟩
set_option maxHeartbeats 4000000 in
set_option maxRecDepth 100000 in
theorem z2054_X11_isEmpty {X : Nat × (Nat → Int32)} {fr : Nat} {M : Mem} (w : Int32) (h0 : Cm (up2 fs42 89 0 0) M) : AM yX11_isEmpty cX11_isEmpty 2 (some .boolean) true (fr + 11) 0 0 X [.ref 89, .int 0] M (fun v M1 => v = some (.int 1) ∧ Cm (up2 fs42 89 0 0) M1) := by
  refine AM.of false (by decide +kernel) (by intro h; cases h) (Nat.le_of_ble_eq_true rfl) ?_
  show AW X (RX11, cX11_isEmpty, 2, (some .boolean), false, true, fr + 11) 0 0 0 [(0, .ref 89), (1, .int 0)] [] M _
  refine a_aload_n dX11_isEmpty_0 rfl rfl ?_
  refine a_get (v := .ref 104) dX11_isEmpty_1 fl_11_56 (cm_l h0 (by decide)) (cm_s h0 (by decide) rfl) (cm_g h0 rfl (by decide +kernel)) ?_
  refine a_iload_n dX11_isEmpty_4 rfl rfl ?_
  refine a_iaload dX11_isEmpty_5 (cm_l h0 (by decide)) (cm_s h0 (by decide) rfl) (by unfold vp_in; decide +kernel) ?_
  rw [show M.2.2.1 104 (Int32.toNatClampNeg 0) = 0 from (cm_i h0 (by decide)).trans (by first | decide +kernel | rfl)]
  refine a_if_ne 13 dX11_isEmpty_6 (by decide) (fun c => absurd (by decide) c) (fun _ => ?_)
  refine a_iconst (v := 1) dX11_isEmpty_9 (by decide) ?_
  refine a_goto 14 dX11_isEmpty_10 (by decide) ?_
  exact a_zret dX11_isEmpty_14 rfl (by first | decide | (split <;> rfl)) ⟨rfl, h0⟩
set_option maxHeartbeats 4000000 in
set_option maxRecDepth 100000 in
theorem q_length_0 {X : Nat × (Nat → Int32)} {fr : Nat} {M : Mem} (w : Int32) (h0 : Cm fs42 M) : AM yX11_length cX11_length 3 (some .int) true (fr + 12) 0 0 X [.ref 89, .int 0, .int w] M (fun v M1 => v = some (.int (if w < 0 then -2 else if w ≤ 2 then -5 else -2)) ∧ True) := by
  refine AM.of false (by decide +kernel) (by intro h; cases h) (Nat.le_of_ble_eq_true rfl) ?_
  show AW X (RX11, cX11_length, 3, (some .int), false, true, fr + 12) 0 0 0 [(0, .ref 89), (1, .int 0), (2, .int w)] [] M _
  refine a_aload_n dX11_length_0 rfl rfl ?_
  refine a_iconst (v := 0) dX11_length_1 (by decide) ?_
  refine a_putI dX11_length_2 (Or.inl ⟨fl_11_1, Or.inl rfl⟩) rfl (cm_l h0 (by decide)) (cm_s h0 (by decide) rfl) rfl rfl ?_
  have h1 : Cm (up2 fs42 89 0 0) (wI M 89 0 0) := cm_I h0 (by decide)
  generalize (wI M 89 0 0) = M1 at h1 ⊢
  refine a_iload_n dX11_length_5 rfl rfl ?_
  refine a_callS (As := [.int 0]) (st := []) (bc := 0) (bs := 0) (mc := 0) (ms := 0) false dX11_length_6 mw_X11_isSlot rfl (Or.inl ⟨rfl, ml_X11_271⟩) sm_X11_isSlot rfl (Nat.le_of_ble_eq_true rfl) (z2053_X11_isSlot (fr := fr) w h1) (fun v M2 hq => ?_)
  obtain ⟨rfl, h2⟩ := hq
  show AW X _ 0 0 9 _ [.int 1] _ _
  refine a_if_eq 24 dX11_length_9 (by decide) (fun c => absurd c (by decide)) (fun _ => ?_)
  refine a_iload_n dX11_length_12 rfl rfl ?_
  refine a_i2l dX11_length_13 ?_
  refine a_lconst (v := 0) dX11_length_14 (by decide) ?_
  refine a_ldc2 dX11_length_15 co_X11_392 ?_
  refine a_callS (As := [.long (Int32.toInt64 w), .long 0, .long 2]) (st := []) (bc := 0) (bs := 0) (mc := 0) (ms := 0) false dX11_length_18 mw_X11_isIn rfl (Or.inl ⟨rfl, ml_X11_180⟩) sm_X11_isIn rfl (Nat.le_of_ble_eq_true rfl) (k_isIn (fr := fr + 11) (Int32.toInt64 w) 0 2) (fun v M1 hq => ?_)
  obtain ⟨rfl, hM1⟩ := hq
  rw [hM1]
  clear hM1 M1
  refine a_st (st2 := [.int (if w < 0 then 0 else if w ≤ 2 then 1 else 0)]) (by exact congrArg (fun z => Value.int z :: []) (isin_w w 2)) ?_
  refine a_if_ne 27 dX11_length_21 (by decide) (fun c3 => ?_) (fun c3 => ?_)
  · refine a_aload_n dX11_length_27 rfl rfl ?_
    refine a_iload_n dX11_length_28 rfl rfl ?_
    refine a_callV (As := [.int 0]) (st := []) (a := 89) (ci := 11) (bc := 0) (bs := 0) (mc := 0) (ms := 0) false dX11_length_29 mw_X11_isEmpty rfl (Or.inl ⟨rfl, ml_X11_343⟩) im_X11_isEmpty se_X11_isEmpty (by decide) (cm_l h2 (by decide)) (cm_s h2 (by decide) rfl) rfl (Nat.le_of_ble_eq_true rfl) (z2054_X11_isEmpty (fr := fr) w h2) (fun v M4 hq => ?_)
    obtain ⟨rfl, h4⟩ := hq
    show AW X _ 0 0 32 _ [.int 1] _ _
    refine a_if_eq 38 dX11_length_32 (by decide) (fun c => absurd c (by decide)) (fun _ => ?_)
    refine a_bipush (v := (-5)) dX11_length_35 (by decide) ?_
    exact a_iret dX11_length_37 rfl ⟨by solve | rfl | (by_cases q0 : w < 0 <;> by_cases q1 : w ≤ 2 <;> simp_all [-Int32.not_lt, -Int32.not_le]), trivial⟩
  · refine a_bipush (v := (-2)) dX11_length_24 (by decide) ?_
    exact a_iret dX11_length_26 rfl ⟨by solve | rfl | (by_cases q0 : w < 0 <;> by_cases q1 : w ≤ 2 <;> simp_all [-Int32.not_lt, -Int32.not_le]), trivial⟩
set_option maxHeartbeats 4000000 in
set_option maxRecDepth 100000 in
theorem z2055_X11_isSlot {X : Nat × (Nat → Int32)} {fr : Nat} {M : Mem} (w : Int32) (h0 : Cm (up2 fs42 89 0 0) M) : AM yX11_isSlot cX11_isSlot 1 (some .boolean) true (fr + 11) 0 0 X [.int 1] M (fun v M1 => v = some (.int 1) ∧ Cm (up2 fs42 89 0 0) M1) := by
  refine AM.of false (by decide +kernel) (by intro h; cases h) (Nat.le_of_ble_eq_true rfl) ?_
  show AW X (RX11, cX11_isSlot, 1, (some .boolean), false, true, fr + 11) 0 0 0 [(0, .int 1)] [] M _
  refine a_iload_n dX11_isSlot_0 rfl rfl ?_
  refine a_i2l dX11_isSlot_1 ?_
  refine a_st (st2 := [.long 1]) (by first | decide +kernel | (refine congrArg (fun z => Value.int z :: []) ?_; decide +kernel) | (refine congrArg (fun z => Value.long z :: []) ?_; decide +kernel)) ?_
  refine a_lconst (v := 0) dX11_isSlot_2 (by decide) ?_
  refine a_ldc2 dX11_isSlot_3 co_X11_281 ?_
  refine a_callS (As := [.long 1, .long 0, .long 3]) (st := []) (bc := 0) (bs := 0) (mc := 0) (ms := 0) false dX11_isSlot_6 mw_X11_isIn rfl (Or.inl ⟨rfl, ml_X11_180⟩) sm_X11_isIn rfl (Nat.le_of_ble_eq_true rfl) (k_isIn (fr := fr + 10) 1 0 3) (fun v M1 hq => ?_)
  obtain ⟨rfl, hM1⟩ := hq
  rw [hM1]
  clear hM1 M1
  refine a_st (st2 := [.int 1]) (by first | decide +kernel | (refine congrArg (fun z => Value.int z :: []) ?_; decide +kernel) | (refine congrArg (fun z => Value.long z :: []) ?_; decide +kernel)) ?_
  exact a_zret dX11_isSlot_9 rfl (by first | decide | (split <;> rfl)) ⟨rfl, h0⟩
set_option maxHeartbeats 4000000 in
set_option maxRecDepth 100000 in
theorem z2056_X11_isEmpty {X : Nat × (Nat → Int32)} {fr : Nat} {M : Mem} (w : Int32) (h0 : Cm (up2 fs42 89 0 0) M) : AM yX11_isEmpty cX11_isEmpty 2 (some .boolean) true (fr + 11) 0 0 X [.ref 89, .int 1] M (fun v M1 => v = some (.int 1) ∧ Cm (up2 fs42 89 0 0) M1) := by
  refine AM.of false (by decide +kernel) (by intro h; cases h) (Nat.le_of_ble_eq_true rfl) ?_
  show AW X (RX11, cX11_isEmpty, 2, (some .boolean), false, true, fr + 11) 0 0 0 [(0, .ref 89), (1, .int 1)] [] M _
  refine a_aload_n dX11_isEmpty_0 rfl rfl ?_
  refine a_get (v := .ref 104) dX11_isEmpty_1 fl_11_56 (cm_l h0 (by decide)) (cm_s h0 (by decide) rfl) (cm_g h0 rfl (by decide +kernel)) ?_
  refine a_iload_n dX11_isEmpty_4 rfl rfl ?_
  refine a_iaload dX11_isEmpty_5 (cm_l h0 (by decide)) (cm_s h0 (by decide) rfl) (by unfold vp_in; decide +kernel) ?_
  rw [show M.2.2.1 104 (Int32.toNatClampNeg 1) = 0 from (cm_i h0 (by decide)).trans (by first | decide +kernel | rfl)]
  refine a_if_ne 13 dX11_isEmpty_6 (by decide) (fun c => absurd (by decide) c) (fun _ => ?_)
  refine a_iconst (v := 1) dX11_isEmpty_9 (by decide) ?_
  refine a_goto 14 dX11_isEmpty_10 (by decide) ?_
  exact a_zret dX11_isEmpty_14 rfl (by first | decide | (split <;> rfl)) ⟨rfl, h0⟩
set_option maxHeartbeats 4000000 in
set_option maxRecDepth 100000 in
theorem q_length_1 {X : Nat × (Nat → Int32)} {fr : Nat} {M : Mem} (w : Int32) (h0 : Cm fs42 M) : AM yX11_length cX11_length 3 (some .int) true (fr + 12) 0 0 X [.ref 89, .int 1, .int w] M (fun v M1 => v = some (.int (if w < 0 then -2 else if w ≤ 2 then -5 else -2)) ∧ True) := by
  refine AM.of false (by decide +kernel) (by intro h; cases h) (Nat.le_of_ble_eq_true rfl) ?_
  show AW X (RX11, cX11_length, 3, (some .int), false, true, fr + 12) 0 0 0 [(0, .ref 89), (1, .int 1), (2, .int w)] [] M _
  refine a_aload_n dX11_length_0 rfl rfl ?_
  refine a_iconst (v := 0) dX11_length_1 (by decide) ?_
  refine a_putI dX11_length_2 (Or.inl ⟨fl_11_1, Or.inl rfl⟩) rfl (cm_l h0 (by decide)) (cm_s h0 (by decide) rfl) rfl rfl ?_
  have h1 : Cm (up2 fs42 89 0 0) (wI M 89 0 0) := cm_I h0 (by decide)
  generalize (wI M 89 0 0) = M1 at h1 ⊢
  refine a_iload_n dX11_length_5 rfl rfl ?_
  refine a_callS (As := [.int 1]) (st := []) (bc := 0) (bs := 0) (mc := 0) (ms := 0) false dX11_length_6 mw_X11_isSlot rfl (Or.inl ⟨rfl, ml_X11_271⟩) sm_X11_isSlot rfl (Nat.le_of_ble_eq_true rfl) (z2055_X11_isSlot (fr := fr) w h1) (fun v M2 hq => ?_)
  obtain ⟨rfl, h2⟩ := hq
  show AW X _ 0 0 9 _ [.int 1] _ _
  refine a_if_eq 24 dX11_length_9 (by decide) (fun c => absurd c (by decide)) (fun _ => ?_)
  refine a_iload_n dX11_length_12 rfl rfl ?_
  refine a_i2l dX11_length_13 ?_
  refine a_lconst (v := 0) dX11_length_14 (by decide) ?_
  refine a_ldc2 dX11_length_15 co_X11_392 ?_
  refine a_callS (As := [.long (Int32.toInt64 w), .long 0, .long 2]) (st := []) (bc := 0) (bs := 0) (mc := 0) (ms := 0) false dX11_length_18 mw_X11_isIn rfl (Or.inl ⟨rfl, ml_X11_180⟩) sm_X11_isIn rfl (Nat.le_of_ble_eq_true rfl) (k_isIn (fr := fr + 11) (Int32.toInt64 w) 0 2) (fun v M1 hq => ?_)
  obtain ⟨rfl, hM1⟩ := hq
  rw [hM1]
  clear hM1 M1
  refine a_st (st2 := [.int (if w < 0 then 0 else if w ≤ 2 then 1 else 0)]) (by exact congrArg (fun z => Value.int z :: []) (isin_w w 2)) ?_
  refine a_if_ne 27 dX11_length_21 (by decide) (fun c3 => ?_) (fun c3 => ?_)
  · refine a_aload_n dX11_length_27 rfl rfl ?_
    refine a_iload_n dX11_length_28 rfl rfl ?_
    refine a_callV (As := [.int 1]) (st := []) (a := 89) (ci := 11) (bc := 0) (bs := 0) (mc := 0) (ms := 0) false dX11_length_29 mw_X11_isEmpty rfl (Or.inl ⟨rfl, ml_X11_343⟩) im_X11_isEmpty se_X11_isEmpty (by decide) (cm_l h2 (by decide)) (cm_s h2 (by decide) rfl) rfl (Nat.le_of_ble_eq_true rfl) (z2056_X11_isEmpty (fr := fr) w h2) (fun v M4 hq => ?_)
    obtain ⟨rfl, h4⟩ := hq
    show AW X _ 0 0 32 _ [.int 1] _ _
    refine a_if_eq 38 dX11_length_32 (by decide) (fun c => absurd c (by decide)) (fun _ => ?_)
    refine a_bipush (v := (-5)) dX11_length_35 (by decide) ?_
    exact a_iret dX11_length_37 rfl ⟨by solve | rfl | (by_cases q0 : w < 0 <;> by_cases q1 : w ≤ 2 <;> simp_all [-Int32.not_lt, -Int32.not_le]), trivial⟩
  · refine a_bipush (v := (-2)) dX11_length_24 (by decide) ?_
    exact a_iret dX11_length_26 rfl ⟨by solve | rfl | (by_cases q0 : w < 0 <;> by_cases q1 : w ≤ 2 <;> simp_all [-Int32.not_lt, -Int32.not_le]), trivial⟩
set_option maxHeartbeats 4000000 in
set_option maxRecDepth 100000 in
theorem z2057_X11_isSlot {X : Nat × (Nat → Int32)} {fr : Nat} {M : Mem} (w : Int32) (h0 : Cm (up2 fs42 89 0 0) M) : AM yX11_isSlot cX11_isSlot 1 (some .boolean) true (fr + 11) 0 0 X [.int 2] M (fun v M1 => v = some (.int 1) ∧ Cm (up2 fs42 89 0 0) M1) := by
  refine AM.of false (by decide +kernel) (by intro h; cases h) (Nat.le_of_ble_eq_true rfl) ?_
  show AW X (RX11, cX11_isSlot, 1, (some .boolean), false, true, fr + 11) 0 0 0 [(0, .int 2)] [] M _
  refine a_iload_n dX11_isSlot_0 rfl rfl ?_
  refine a_i2l dX11_isSlot_1 ?_
  refine a_st (st2 := [.long 2]) (by first | decide +kernel | (refine congrArg (fun z => Value.int z :: []) ?_; decide +kernel) | (refine congrArg (fun z => Value.long z :: []) ?_; decide +kernel)) ?_
  refine a_lconst (v := 0) dX11_isSlot_2 (by decide) ?_
  refine a_ldc2 dX11_isSlot_3 co_X11_281 ?_
  refine a_callS (As := [.long 2, .long 0, .long 3]) (st := []) (bc := 0) (bs := 0) (mc := 0) (ms := 0) false dX11_isSlot_6 mw_X11_isIn rfl (Or.inl ⟨rfl, ml_X11_180⟩) sm_X11_isIn rfl (Nat.le_of_ble_eq_true rfl) (k_isIn (fr := fr + 10) 2 0 3) (fun v M1 hq => ?_)
  obtain ⟨rfl, hM1⟩ := hq
  rw [hM1]
  clear hM1 M1
  refine a_st (st2 := [.int 1]) (by first | decide +kernel | (refine congrArg (fun z => Value.int z :: []) ?_; decide +kernel) | (refine congrArg (fun z => Value.long z :: []) ?_; decide +kernel)) ?_
  exact a_zret dX11_isSlot_9 rfl (by first | decide | (split <;> rfl)) ⟨rfl, h0⟩
set_option maxHeartbeats 4000000 in
set_option maxRecDepth 100000 in
theorem z2058_X11_isEmpty {X : Nat × (Nat → Int32)} {fr : Nat} {M : Mem} (w : Int32) (h0 : Cm (up2 fs42 89 0 0) M) : AM yX11_isEmpty cX11_isEmpty 2 (some .boolean) true (fr + 11) 0 0 X [.ref 89, .int 2] M (fun v M1 => v = some (.int 1) ∧ Cm (up2 fs42 89 0 0) M1) := by
  refine AM.of false (by decide +kernel) (by intro h; cases h) (Nat.le_of_ble_eq_true rfl) ?_
  show AW X (RX11, cX11_isEmpty, 2, (some .boolean), false, true, fr + 11) 0 0 0 [(0, .ref 89), (1, .int 2)] [] M _
  refine a_aload_n dX11_isEmpty_0 rfl rfl ?_
  refine a_get (v := .ref 104) dX11_isEmpty_1 fl_11_56 (cm_l h0 (by decide)) (cm_s h0 (by decide) rfl) (cm_g h0 rfl (by decide +kernel)) ?_
  refine a_iload_n dX11_isEmpty_4 rfl rfl ?_
  refine a_iaload dX11_isEmpty_5 (cm_l h0 (by decide)) (cm_s h0 (by decide) rfl) (by unfold vp_in; decide +kernel) ?_
  rw [show M.2.2.1 104 (Int32.toNatClampNeg 2) = 0 from (cm_i h0 (by decide)).trans (by first | decide +kernel | rfl)]
  refine a_if_ne 13 dX11_isEmpty_6 (by decide) (fun c => absurd (by decide) c) (fun _ => ?_)
  refine a_iconst (v := 1) dX11_isEmpty_9 (by decide) ?_
  refine a_goto 14 dX11_isEmpty_10 (by decide) ?_
  exact a_zret dX11_isEmpty_14 rfl (by first | decide | (split <;> rfl)) ⟨rfl, h0⟩
set_option maxHeartbeats 4000000 in
set_option maxRecDepth 100000 in
theorem q_length_2 {X : Nat × (Nat → Int32)} {fr : Nat} {M : Mem} (w : Int32) (h0 : Cm fs42 M) : AM yX11_length cX11_length 3 (some .int) true (fr + 12) 0 0 X [.ref 89, .int 2, .int w] M (fun v M1 => v = some (.int (if w < 0 then -2 else if w ≤ 2 then -5 else -2)) ∧ True) := by
  refine AM.of false (by decide +kernel) (by intro h; cases h) (Nat.le_of_ble_eq_true rfl) ?_
  show AW X (RX11, cX11_length, 3, (some .int), false, true, fr + 12) 0 0 0 [(0, .ref 89), (1, .int 2), (2, .int w)] [] M _
  refine a_aload_n dX11_length_0 rfl rfl ?_
  refine a_iconst (v := 0) dX11_length_1 (by decide) ?_
  refine a_putI dX11_length_2 (Or.inl ⟨fl_11_1, Or.inl rfl⟩) rfl (cm_l h0 (by decide)) (cm_s h0 (by decide) rfl) rfl rfl ?_
  have h1 : Cm (up2 fs42 89 0 0) (wI M 89 0 0) := cm_I h0 (by decide)
  generalize (wI M 89 0 0) = M1 at h1 ⊢
  refine a_iload_n dX11_length_5 rfl rfl ?_
  refine a_callS (As := [.int 2]) (st := []) (bc := 0) (bs := 0) (mc := 0) (ms := 0) false dX11_length_6 mw_X11_isSlot rfl (Or.inl ⟨rfl, ml_X11_271⟩) sm_X11_isSlot rfl (Nat.le_of_ble_eq_true rfl) (z2057_X11_isSlot (fr := fr) w h1) (fun v M2 hq => ?_)
  obtain ⟨rfl, h2⟩ := hq
  show AW X _ 0 0 9 _ [.int 1] _ _
  refine a_if_eq 24 dX11_length_9 (by decide) (fun c => absurd c (by decide)) (fun _ => ?_)
  refine a_iload_n dX11_length_12 rfl rfl ?_
  refine a_i2l dX11_length_13 ?_
  refine a_lconst (v := 0) dX11_length_14 (by decide) ?_
  refine a_ldc2 dX11_length_15 co_X11_392 ?_
  refine a_callS (As := [.long (Int32.toInt64 w), .long 0, .long 2]) (st := []) (bc := 0) (bs := 0) (mc := 0) (ms := 0) false dX11_length_18 mw_X11_isIn rfl (Or.inl ⟨rfl, ml_X11_180⟩) sm_X11_isIn rfl (Nat.le_of_ble_eq_true rfl) (k_isIn (fr := fr + 11) (Int32.toInt64 w) 0 2) (fun v M1 hq => ?_)
  obtain ⟨rfl, hM1⟩ := hq
  rw [hM1]
  clear hM1 M1
  refine a_st (st2 := [.int (if w < 0 then 0 else if w ≤ 2 then 1 else 0)]) (by exact congrArg (fun z => Value.int z :: []) (isin_w w 2)) ?_
  refine a_if_ne 27 dX11_length_21 (by decide) (fun c3 => ?_) (fun c3 => ?_)
  · refine a_aload_n dX11_length_27 rfl rfl ?_
    refine a_iload_n dX11_length_28 rfl rfl ?_
    refine a_callV (As := [.int 2]) (st := []) (a := 89) (ci := 11) (bc := 0) (bs := 0) (mc := 0) (ms := 0) false dX11_length_29 mw_X11_isEmpty rfl (Or.inl ⟨rfl, ml_X11_343⟩) im_X11_isEmpty se_X11_isEmpty (by decide) (cm_l h2 (by decide)) (cm_s h2 (by decide) rfl) rfl (Nat.le_of_ble_eq_true rfl) (z2058_X11_isEmpty (fr := fr) w h2) (fun v M4 hq => ?_)
    obtain ⟨rfl, h4⟩ := hq
    show AW X _ 0 0 32 _ [.int 1] _ _
    refine a_if_eq 38 dX11_length_32 (by decide) (fun c => absurd c (by decide)) (fun _ => ?_)
    refine a_bipush (v := (-5)) dX11_length_35 (by decide) ?_
    exact a_iret dX11_length_37 rfl ⟨by solve | rfl | (by_cases q0 : w < 0 <;> by_cases q1 : w ≤ 2 <;> simp_all [-Int32.not_lt, -Int32.not_le]), trivial⟩
  · refine a_bipush (v := (-2)) dX11_length_24 (by decide) ?_
    exact a_iret dX11_length_26 rfl ⟨by solve | rfl | (by_cases q0 : w < 0 <;> by_cases q1 : w ≤ 2 <;> simp_all [-Int32.not_lt, -Int32.not_le]), trivial⟩
set_option maxHeartbeats 4000000 in
set_option maxRecDepth 100000 in
theorem z2059_X11_isSlot {X : Nat × (Nat → Int32)} {fr : Nat} {M : Mem} (w : Int32) (h0 : Cm (up2 fs42 89 0 0) M) : AM yX11_isSlot cX11_isSlot 1 (some .boolean) true (fr + 11) 0 0 X [.int 3] M (fun v M1 => v = some (.int 1) ∧ Cm (up2 fs42 89 0 0) M1) := by
  refine AM.of false (by decide +kernel) (by intro h; cases h) (Nat.le_of_ble_eq_true rfl) ?_
  show AW X (RX11, cX11_isSlot, 1, (some .boolean), false, true, fr + 11) 0 0 0 [(0, .int 3)] [] M _
  refine a_iload_n dX11_isSlot_0 rfl rfl ?_
  refine a_i2l dX11_isSlot_1 ?_
  refine a_st (st2 := [.long 3]) (by first | decide +kernel | (refine congrArg (fun z => Value.int z :: []) ?_; decide +kernel) | (refine congrArg (fun z => Value.long z :: []) ?_; decide +kernel)) ?_
  refine a_lconst (v := 0) dX11_isSlot_2 (by decide) ?_
  refine a_ldc2 dX11_isSlot_3 co_X11_281 ?_
  refine a_callS (As := [.long 3, .long 0, .long 3]) (st := []) (bc := 0) (bs := 0) (mc := 0) (ms := 0) false dX11_isSlot_6 mw_X11_isIn rfl (Or.inl ⟨rfl, ml_X11_180⟩) sm_X11_isIn rfl (Nat.le_of_ble_eq_true rfl) (k_isIn (fr := fr + 10) 3 0 3) (fun v M1 hq => ?_)
  obtain ⟨rfl, hM1⟩ := hq
  rw [hM1]
  clear hM1 M1
  refine a_st (st2 := [.int 1]) (by first | decide +kernel | (refine congrArg (fun z => Value.int z :: []) ?_; decide +kernel) | (refine congrArg (fun z => Value.long z :: []) ?_; decide +kernel)) ?_
  exact a_zret dX11_isSlot_9 rfl (by first | decide | (split <;> rfl)) ⟨rfl, h0⟩
