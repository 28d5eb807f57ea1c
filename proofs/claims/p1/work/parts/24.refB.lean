set_option maxHeartbeats 4000000 in
set_option maxRecDepth 100000 in
theorem q_hypotheses_n {X : Nat × (Nat → Int32)} {fr : Nat} {M : Mem}  (n : Int32) (hn : n < 0) (h0 : Cm fs42 M) : AM yX11_hypotheses cX11_hypotheses 3 (some .int) true (fr + 12) 0 0 X [.ref 89, .int n] M (fun v M1 => v = some (.int (-3)) ∧ True) := by
  refine AM.of false (by decide +kernel) (by intro h; cases h) (Nat.le_of_ble_eq_true rfl) ?_
  show AW X (RX11, cX11_hypotheses, 3, (some .int), false, true, fr + 12) 0 0 0 [(0, .ref 89), (1, .int n)] [] M _
  refine a_aload_n dX11_hypotheses_0 rfl rfl ?_
  refine a_iconst (v := 0) dX11_hypotheses_1 (by decide) ?_
  refine a_putI dX11_hypotheses_2 (Or.inl ⟨fl_11_1, Or.inl rfl⟩) rfl (cm_l h0 (by decide)) (cm_s h0 (by decide) rfl) rfl rfl ?_
  have h1 : Cm (up2 fs42 89 0 0) (wI M 89 0 0) := cm_I h0 (by decide)
  generalize (wI M 89 0 0) = M1 at h1 ⊢
  refine a_iload_n dX11_hypotheses_5 rfl rfl ?_
  refine a_i2l dX11_hypotheses_6 ?_
  refine a_lconst (v := 0) dX11_hypotheses_7 (by decide) ?_
  refine a_aload_n dX11_hypotheses_8 rfl rfl ?_
  refine a_get (v := .int 0) dX11_hypotheses_9 fl_11_154 (cm_l h1 (by decide)) (cm_s h1 (by decide) rfl) (cm_gi h1 rfl (by decide) (by first | decide +kernel | rfl)) ?_
  refine a_i2l dX11_hypotheses_12 ?_
  refine a_st (st2 := [.long 0, .long 0, .long (Int32.toInt64 n)]) (by first | decide +kernel | (refine congrArg (fun z => Value.int z :: [.long 0, .long (Int32.toInt64 n)]) ?_; decide +kernel) | (refine congrArg (fun z => Value.long z :: [.long 0, .long (Int32.toInt64 n)]) ?_; decide +kernel)) ?_
  refine a_callS (As := [.long (Int32.toInt64 n), .long 0, .long 0]) (st := []) (bc := 0) (bs := 0) (mc := 0) (ms := 0) false dX11_hypotheses_13 mw_X11_isIn rfl (Or.inl ⟨rfl, ml_X11_180⟩) sm_X11_isIn rfl (Nat.le_of_ble_eq_true rfl) (k_isIn (fr := fr + 11) (Int32.toInt64 n) 0 0) (fun v M1 hq => ?_)
  obtain ⟨rfl, hM1⟩ := hq
  rw [hM1]
  clear hM1 M1
  refine a_st (st2 := [.int 0]) (by exact congrArg (fun z => Value.int z :: []) (isin_n hn)) ?_
  refine a_if_ne 22 dX11_hypotheses_16 (by decide) (fun c => absurd (by decide) c) (fun _ => ?_)
  refine a_bipush (v := (-3)) dX11_hypotheses_19 (by decide) ?_
  exact a_iret dX11_hypotheses_21 rfl ⟨by first | rfl | decide +kernel | simp [*], trivial⟩
set_option maxHeartbeats 4000000 in
set_option maxRecDepth 100000 in
theorem q_hypotheses_p {X : Nat × (Nat → Int32)} {fr : Nat} {M : Mem}  (n : Int32) (hn : 0 < n) (h0 : Cm fs42 M) : AM yX11_hypotheses cX11_hypotheses 3 (some .int) true (fr + 12) 0 0 X [.ref 89, .int n] M (fun v M1 => v = some (.int (-3)) ∧ True) := by
  refine AM.of false (by decide +kernel) (by intro h; cases h) (Nat.le_of_ble_eq_true rfl) ?_
  show AW X (RX11, cX11_hypotheses, 3, (some .int), false, true, fr + 12) 0 0 0 [(0, .ref 89), (1, .int n)] [] M _
  refine a_aload_n dX11_hypotheses_0 rfl rfl ?_
  refine a_iconst (v := 0) dX11_hypotheses_1 (by decide) ?_
  refine a_putI dX11_hypotheses_2 (Or.inl ⟨fl_11_1, Or.inl rfl⟩) rfl (cm_l h0 (by decide)) (cm_s h0 (by decide) rfl) rfl rfl ?_
  have h1 : Cm (up2 fs42 89 0 0) (wI M 89 0 0) := cm_I h0 (by decide)
  generalize (wI M 89 0 0) = M1 at h1 ⊢
  refine a_iload_n dX11_hypotheses_5 rfl rfl ?_
  refine a_i2l dX11_hypotheses_6 ?_
  refine a_lconst (v := 0) dX11_hypotheses_7 (by decide) ?_
  refine a_aload_n dX11_hypotheses_8 rfl rfl ?_
  refine a_get (v := .int 0) dX11_hypotheses_9 fl_11_154 (cm_l h1 (by decide)) (cm_s h1 (by decide) rfl) (cm_gi h1 rfl (by decide) (by first | decide +kernel | rfl)) ?_
  refine a_i2l dX11_hypotheses_12 ?_
  refine a_st (st2 := [.long 0, .long 0, .long (Int32.toInt64 n)]) (by first | decide +kernel | (refine congrArg (fun z => Value.int z :: [.long 0, .long (Int32.toInt64 n)]) ?_; decide +kernel) | (refine congrArg (fun z => Value.long z :: [.long 0, .long (Int32.toInt64 n)]) ?_; decide +kernel)) ?_
  refine a_callS (As := [.long (Int32.toInt64 n), .long 0, .long 0]) (st := []) (bc := 0) (bs := 0) (mc := 0) (ms := 0) false dX11_hypotheses_13 mw_X11_isIn rfl (Or.inl ⟨rfl, ml_X11_180⟩) sm_X11_isIn rfl (Nat.le_of_ble_eq_true rfl) (k_isIn (fr := fr + 11) (Int32.toInt64 n) 0 0) (fun v M1 hq => ?_)
  obtain ⟨rfl, hM1⟩ := hq
  rw [hM1]
  clear hM1 M1
  refine a_st (st2 := [.int 0]) (by exact congrArg (fun z => Value.int z :: []) (isin_p hn)) ?_
  refine a_if_ne 22 dX11_hypotheses_16 (by decide) (fun c => absurd (by decide) c) (fun _ => ?_)
  refine a_bipush (v := (-3)) dX11_hypotheses_19 (by decide) ?_
  exact a_iret dX11_hypotheses_21 rfl ⟨by first | rfl | decide +kernel | simp [*], trivial⟩
set_option maxHeartbeats 4000000 in
set_option maxRecDepth 100000 in
theorem z2013_X11_peek {X : Nat × (Nat → Int32)} {fr : Nat} {M : Mem}  (h0 : Cm (up2 (up2 (up2 (up2 (up2 (up2 (up2 fs42 89 0 0) 89 27 0) 89 28 0) 89 29 0) 89 30 0) 89 31 (-1)) 89 34 0) M) : AM yX11_peek cX11_peek 1 (some .int) true (fr + 6) 0 0 X [.ref 89] M (fun v M1 => v = some (.int (-1)) ∧ Cm (up2 (up2 (up2 (up2 (up2 (up2 (up2 fs42 89 0 0) 89 27 0) 89 28 0) 89 29 0) 89 30 0) 89 31 (-1)) 89 34 0) M1) := by
  refine AM.of false (by decide +kernel) (by intro h; cases h) (Nat.le_of_ble_eq_true rfl) ?_
  show AW X (RX11, cX11_peek, 1, (some .int), false, true, fr + 6) 0 0 0 [(0, .ref 89)] [] M _
  refine a_aload_n dX11_peek_0 rfl rfl ?_
  refine a_get (v := .int 0) dX11_peek_1 fl_11_157 (cm_l h0 (by decide)) (cm_s h0 (by decide) rfl) (cm_gi h0 rfl (by decide) (by first | decide +kernel | rfl)) ?_
  refine a_aload_n dX11_peek_4 rfl rfl ?_
  refine a_get (v := .int 0) dX11_peek_5 fl_11_160 (cm_l h0 (by decide)) (cm_s h0 (by decide) rfl) (cm_gi h0 rfl (by decide) (by first | decide +kernel | rfl)) ?_
  refine a_icmp_ge 27 dX11_peek_8 (by decide) (fun _ => ?_) (fun c => absurd (by decide) c)
  refine a_iconst (v := (-1)) dX11_peek_27 (by decide) ?_
  exact a_iret dX11_peek_28 rfl ⟨rfl, h0⟩
set_option maxHeartbeats 4000000 in
set_option maxRecDepth 100000 in
theorem z2012_X11_blanks {X : Nat × (Nat → Int32)} {fr : Nat} {M : Mem}  (h0 : Cm (up2 (up2 (up2 (up2 (up2 (up2 (up2 fs42 89 0 0) 89 27 0) 89 28 0) 89 29 0) 89 30 0) 89 31 (-1)) 89 34 0) M) : AM yX11_blanks cX11_blanks 1 none true (fr + 7) 0 0 X [.ref 89] M (fun v M1 => v = none ∧ Cm (up2 (up2 (up2 (up2 (up2 (up2 (up2 fs42 89 0 0) 89 27 0) 89 28 0) 89 29 0) 89 30 0) 89 31 (-1)) 89 34 0) M1) := by
  refine AM.of false (by decide +kernel) (by intro h; cases h) (Nat.le_of_ble_eq_true rfl) ?_
  show AW X (RX11, cX11_blanks, 1, none, false, true, fr + 7) 0 0 0 [(0, .ref 89)] [] M _
  refine a_aload_n dX11_blanks_0 rfl rfl ?_
  refine a_callV (As := []) (st := []) (a := 89) (ci := 11) (bc := 0) (bs := 0) (mc := 0) (ms := 0) false dX11_blanks_1 mw_X11_peek rfl (Or.inl ⟨rfl, ml_X11_169⟩) im_X11_peek se_X11_peek (by decide) (cm_l h0 (by decide)) (cm_s h0 (by decide) rfl) rfl (Nat.le_of_ble_eq_true rfl) (z2013_X11_peek (fr := fr)  h0) (fun v M1 hq => ?_)
  obtain ⟨rfl, h1⟩ := hq
  show AW X _ 0 0 4 _ [.int (-1)] _ _
  refine a_bipush (v := 32) dX11_blanks_4 (by decide) ?_
  refine a_icmp_ne 22 dX11_blanks_6 (by decide) (fun _ => ?_) (fun c => absurd c (by decide))
  exact a_vret dX11_blanks_22 rfl ⟨rfl, h1⟩
set_option maxHeartbeats 4000000 in
set_option maxRecDepth 100000 in
theorem z2011_X11_lettersHere {X : Nat × (Nat → Int32)} {fr : Nat} {M : Mem}  (h0 : Cm (up2 (up2 (up2 (up2 (up2 (up2 (up2 fs42 89 0 0) 89 27 0) 89 28 0) 89 29 0) 89 30 0) 89 31 (-1)) 89 34 0) M) : AM yX11_lettersHere cX11_lettersHere 2 (some .int) true (fr + 8) 0 0 X [.ref 89] M (fun v M1 => v = some (.int 0) ∧ Cm (up2 (up2 (up2 (up2 (up2 (up2 (up2 fs42 89 0 0) 89 27 0) 89 28 0) 89 29 0) 89 30 0) 89 31 (-1)) 89 34 0) M1) := by
  refine AM.of false (by decide +kernel) (by intro h; cases h) (Nat.le_of_ble_eq_true rfl) ?_
  show AW X (RX11, cX11_lettersHere, 2, (some .int), false, true, fr + 8) 0 0 0 [(0, .ref 89)] [] M _
  refine a_aload_n dX11_lettersHere_0 rfl rfl ?_
  refine a_callV (As := []) (st := []) (a := 89) (ci := 11) (bc := 0) (bs := 0) (mc := 0) (ms := 0) false dX11_lettersHere_1 mw_X11_blanks rfl (Or.inl ⟨rfl, ml_X11_173⟩) im_X11_blanks se_X11_blanks (by decide) (cm_l h0 (by decide)) (cm_s h0 (by decide) rfl) rfl (Nat.le_of_ble_eq_true rfl) (z2012_X11_blanks (fr := fr)  h0) (fun v M1 hq => ?_)
  obtain ⟨rfl, h1⟩ := hq
  refine a_aload_n dX11_lettersHere_4 rfl rfl ?_
  refine a_get (v := .int 0) dX11_lettersHere_5 fl_11_157 (cm_l h1 (by decide)) (cm_s h1 (by decide) rfl) (cm_gi h1 rfl (by decide) (by first | decide +kernel | rfl)) ?_
  refine a_istore_n dX11_lettersHere_8 rfl (Nat.le_of_ble_eq_true rfl) (lv2 := [(1, .int 0), (0, .ref 89)]) rfl ?_
  refine a_iload_n dX11_lettersHere_9 rfl rfl ?_
  refine a_aload_n dX11_lettersHere_10 rfl rfl ?_
  refine a_get (v := .int 0) dX11_lettersHere_11 fl_11_160 (cm_l h1 (by decide)) (cm_s h1 (by decide) rfl) (cm_gi h1 rfl (by decide) (by first | decide +kernel | rfl)) ?_
  refine a_icmp_ge 42 dX11_lettersHere_14 (by decide) (fun _ => ?_) (fun c => absurd (by decide) c)
  refine a_iload_n dX11_lettersHere_42 rfl rfl ?_
  refine a_aload_n dX11_lettersHere_43 rfl rfl ?_
  refine a_get (v := .int 0) dX11_lettersHere_44 fl_11_157 (cm_l h1 (by decide)) (cm_s h1 (by decide) rfl) (cm_gi h1 rfl (by decide) (by first | decide +kernel | rfl)) ?_
  refine a_isub dX11_lettersHere_47 ?_
  refine a_st (st2 := [.int 0]) (by first | decide +kernel | (refine congrArg (fun z => Value.int z :: []) ?_; decide +kernel) | (refine congrArg (fun z => Value.long z :: []) ?_; decide +kernel)) ?_
  exact a_iret dX11_lettersHere_48 rfl ⟨rfl, h1⟩
set_option maxHeartbeats 4000000 in
set_option maxRecDepth 100000 in
theorem z2010_X11_wordNext {X : Nat × (Nat → Int32)} {fr : Nat} {M : Mem}  (h0 : Cm (up2 (up2 (up2 (up2 (up2 (up2 (up2 fs42 89 0 0) 89 27 0) 89 28 0) 89 29 0) 89 30 0) 89 31 (-1)) 89 34 0) M) : AM yX11_wordNext cX11_wordNext 7 (some .int) true (fr + 9) 0 0 X [.ref 89] M (fun v M1 => v = some (.int (-1)) ∧ Cm (up2 (up2 (up2 (up2 (up2 (up2 (up2 fs42 89 0 0) 89 27 0) 89 28 0) 89 29 0) 89 30 0) 89 31 (-1)) 89 34 0) M1) := by
  refine AM.of false (by decide +kernel) (by intro h; cases h) (Nat.le_of_ble_eq_true rfl) ?_
  show AW X (RX11, cX11_wordNext, 7, (some .int), false, true, fr + 9) 0 0 0 [(0, .ref 89)] [] M _
  refine a_aload_n dX11_wordNext_0 rfl rfl ?_
  refine a_callV (As := []) (st := []) (a := 89) (ci := 11) (bc := 0) (bs := 0) (mc := 0) (ms := 0) false dX11_wordNext_1 mw_X11_lettersHere rfl (Or.inl ⟨rfl, ml_X11_184⟩) im_X11_lettersHere se_X11_lettersHere (by decide) (cm_l h0 (by decide)) (cm_s h0 (by decide) rfl) rfl (Nat.le_of_ble_eq_true rfl) (z2011_X11_lettersHere (fr := fr)  h0) (fun v M1 hq => ?_)
  obtain ⟨rfl, h1⟩ := hq
  show AW X _ 0 0 4 _ [.int 0] _ _
  refine a_istore_n dX11_wordNext_4 rfl (Nat.le_of_ble_eq_true rfl) (lv2 := [(1, .int 0), (0, .ref 89)]) rfl ?_
  refine a_iconst (v := 0) dX11_wordNext_5 (by decide) ?_
  refine a_istore_n dX11_wordNext_6 rfl (Nat.le_of_ble_eq_true rfl) (lv2 := [(2, .int 0), (1, .int 0), (0, .ref 89)]) rfl ?_
  refine a_iconst (v := 0) dX11_wordNext_7 (by decide) ?_
  refine a_istore_n dX11_wordNext_8 rfl (Nat.le_of_ble_eq_true rfl) (lv2 := [(3, .int 0), (2, .int 0), (1, .int 0), (0, .ref 89)]) rfl ?_
  refine a_iload_n dX11_wordNext_9 rfl rfl ?_
  refine a_ldcB dX11_wordNext_10 rfl ?_
  refine a_callT (As := []) (st := [.int 0]) (i := 1) (bc := 0) (bs := 0) (mc := 0) (ms := 0) dX11_wordNext_12 mw_J0_length_8abf5 rfl ml_X11_189 im_J0_length_8abf5 se_J0_length_8abf5 (by decide) rfl (Nat.le_of_ble_eq_true rfl) (k_tlen1 (fr := fr + 7)) (fun v M1 hq => ?_)
  obtain ⟨rfl, hM1⟩ := hq
  rw [hM1]
  clear hM1 M1
  show AW X _ 0 0 15 _ [.int 74, .int 0] _ _
  refine a_icmp_ge 126 dX11_wordNext_15 (by decide) (fun c => absurd c (by decide)) (fun _ => ?_)
  refine a_iconst (v := 0) dX11_wordNext_18 (by decide) ?_
  refine a_istore dX11_wordNext_19 (Nat.le_of_ble_eq_true rfl) (lv2 := [(4, .int 0), (3, .int 0), (2, .int 0), (1, .int 0), (0, .ref 89)]) rfl ?_
  refine a_ldcB dX11_wordNext_21 rfl ?_
  refine a_iload_n dX11_wordNext_23 rfl rfl ?_
  refine a_iload dX11_wordNext_24 rfl ?_
  refine a_iadd dX11_wordNext_26 ?_
  refine a_st (st2 := [.int 0, .ref 1000005]) (by first | decide +kernel | (refine congrArg (fun z => Value.int z :: [.ref 1000005]) ?_; decide +kernel) | (refine congrArg (fun z => Value.long z :: [.ref 1000005]) ?_; decide +kernel)) ?_
  refine a_callT (As := [.int 0]) (st := []) (i := 1) (bc := 0) (bs := 0) (mc := 0) (ms := 0) dX11_wordNext_27 mw_J0_charAt_5068e rfl ml_X11_194 im_J0_charAt_5068e se_J0_charAt_5068e (by decide) rfl (Nat.le_of_ble_eq_true rfl) (k_charAt1 (fr := fr + 5) (j := 0) (by unfold vp_in; decide +kernel)) (fun v M1 hq => ?_)
  obtain ⟨rfl, hM1⟩ := hq
  rw [hM1]
  clear hM1 M1
  refine a_st (st2 := [.int 112]) (by first | decide +kernel | (refine congrArg (fun z => Value.int z :: []) ?_; decide +kernel) | (refine congrArg (fun z => Value.long z :: []) ?_; decide +kernel)) ?_
  refine a_bipush (v := 32) dX11_wordNext_30 (by decide) ?_
  refine a_icmp_eq 41 dX11_wordNext_32 (by decide) (fun c => absurd c (by decide)) (fun _ => ?_)
  refine a_iinc (v := 1) dX11_wordNext_35 rfl (by decide) (Nat.le_of_ble_eq_true rfl) (lv2 := [(4, .int 1), (3, .int 0), (2, .int 0), (1, .int 0), (0, .ref 89)]) rfl ?_
  refine a_goto 21 dX11_wordNext_38 (by decide) ?_
  refine a_ldcB dX11_wordNext_21 rfl ?_
  refine a_iload_n dX11_wordNext_23 rfl rfl ?_
  refine a_iload dX11_wordNext_24 rfl ?_
  refine a_iadd dX11_wordNext_26 ?_
  refine a_st (st2 := [.int 1, .ref 1000005]) (by first | decide +kernel | (refine congrArg (fun z => Value.int z :: [.ref 1000005]) ?_; decide +kernel) | (refine congrArg (fun z => Value.long z :: [.ref 1000005]) ?_; decide +kernel)) ?_
  refine a_callT (As := [.int 1]) (st := []) (i := 1) (bc := 0) (bs := 0) (mc := 0) (ms := 0) dX11_wordNext_27 mw_J0_charAt_5068e rfl ml_X11_194 im_J0_charAt_5068e se_J0_charAt_5068e (by decide) rfl (Nat.le_of_ble_eq_true rfl) (k_charAt1 (fr := fr + 5) (j := 1) (by unfold vp_in; decide +kernel)) (fun v M1 hq => ?_)
  obtain ⟨rfl, hM1⟩ := hq
  rw [hM1]
  clear hM1 M1
  refine a_st (st2 := [.int 32]) (by first | decide +kernel | (refine congrArg (fun z => Value.int z :: []) ?_; decide +kernel) | (refine congrArg (fun z => Value.long z :: []) ?_; decide +kernel)) ?_
  refine a_bipush (v := 32) dX11_wordNext_30 (by decide) ?_
  refine a_icmp_eq 41 dX11_wordNext_32 (by decide) (fun _ => ?_) (fun c => absurd (by decide) c)
  refine a_iload dX11_wordNext_41 rfl ?_
  refine a_iload_n dX11_wordNext_43 rfl rfl ?_
  refine a_icmp_ne 51 dX11_wordNext_44 (by decide) (fun _ => ?_) (fun c => absurd c (by decide))
  refine a_iconst (v := 0) dX11_wordNext_51 (by decide) ?_
  refine a_istore dX11_wordNext_52 (Nat.le_of_ble_eq_true rfl) (lv2 := [(5, .int 0), (4, .int 1), (3, .int 0), (2, .int 0), (1, .int 0), (0, .ref 89)]) rfl ?_
  refine a_iconst (v := 0) dX11_wordNext_54 (by decide) ?_
  refine a_istore dX11_wordNext_55 (Nat.le_of_ble_eq_true rfl) (lv2 := [(6, .int 0), (5, .int 0), (4, .int 1), (3, .int 0), (2, .int 0), (1, .int 0), (0, .ref 89)]) rfl ?_
  refine a_iload dX11_wordNext_57 rfl ?_
  refine a_iload dX11_wordNext_59 rfl ?_
  refine a_icmp_ge 106 dX11_wordNext_61 (by decide) (fun c => absurd c (by decide)) (fun _ => ?_)
  refine a_iload dX11_wordNext_64 rfl ?_
  refine a_if_eq 106 dX11_wordNext_66 (by decide) (fun _ => ?_) (fun c => absurd (by decide) c)
  refine a_iload dX11_wordNext_106 rfl ?_
  refine a_if_eq 113 dX11_wordNext_108 (by decide) (fun _ => ?_) (fun c => absurd (by decide) c)
  refine a_iload_n dX11_wordNext_113 rfl rfl ?_
  refine a_iload dX11_wordNext_114 rfl ?_
  refine a_iconst (v := 1) dX11_wordNext_116 (by decide) ?_
  refine a_iadd dX11_wordNext_117 ?_
  refine a_st (st2 := [.int 2, .int 0]) (by first | decide +kernel | (refine congrArg (fun z => Value.int z :: [.int 0]) ?_; decide +kernel) | (refine congrArg (fun z => Value.long z :: [.int 0]) ?_; decide +kernel)) ?_
  refine a_iadd dX11_wordNext_118 ?_
  refine a_st (st2 := [.int 2]) (by first | decide +kernel | (refine congrArg (fun z => Value.int z :: []) ?_; decide +kernel) | (refine congrArg (fun z => Value.long z :: []) ?_; decide +kernel)) ?_
  refine a_istore_n dX11_wordNext_119 rfl (Nat.le_of_ble_eq_true rfl) (lv2 := [(3, .int 2), (6, .int 0), (5, .int 0), (4, .int 1), (2, .int 0), (1, .int 0), (0, .ref 89)]) rfl ?_
  refine a_iinc (v := 1) dX11_wordNext_120 rfl (by decide) (Nat.le_of_ble_eq_true rfl) (lv2 := [(2, .int 1), (3, .int 2), (6, .int 0), (5, .int 0), (4, .int 1), (1, .int 0), (0, .ref 89)]) rfl ?_
  refine a_goto 9 dX11_wordNext_123 (by decide) ?_
  refine a_iload_n dX11_wordNext_9 rfl rfl ?_
  refine a_ldcB dX11_wordNext_10 rfl ?_
  refine a_callT (As := []) (st := [.int 2]) (i := 1) (bc := 0) (bs := 0) (mc := 0) (ms := 0) dX11_wordNext_12 mw_J0_length_8abf5 rfl ml_X11_189 im_J0_length_8abf5 se_J0_length_8abf5 (by decide) rfl (Nat.le_of_ble_eq_true rfl) (k_tlen1 (fr := fr + 7)) (fun v M1 hq => ?_)
  obtain ⟨rfl, hM1⟩ := hq
  rw [hM1]
  clear hM1 M1
  show AW X _ 0 0 15 _ [.int 74, .int 2] _ _
  refine a_icmp_ge 126 dX11_wordNext_15 (by decide) (fun c => absurd c (by decide)) (fun _ => ?_)
  refine a_iconst (v := 0) dX11_wordNext_18 (by decide) ?_
  refine a_istore dX11_wordNext_19 (Nat.le_of_ble_eq_true rfl) (lv2 := [(4, .int 0), (2, .int 1), (3, .int 2), (6, .int 0), (5, .int 0), (1, .int 0), (0, .ref 89)]) rfl ?_
  refine a_ldcB dX11_wordNext_21 rfl ?_
  refine a_iload_n dX11_wordNext_23 rfl rfl ?_
  refine a_iload dX11_wordNext_24 rfl ?_
  refine a_iadd dX11_wordNext_26 ?_
  refine a_st (st2 := [.int 2, .ref 1000005]) (by first | decide +kernel | (refine congrArg (fun z => Value.int z :: [.ref 1000005]) ?_; decide +kernel) | (refine congrArg (fun z => Value.long z :: [.ref 1000005]) ?_; decide +kernel)) ?_
  refine a_callT (As := [.int 2]) (st := []) (i := 1) (bc := 0) (bs := 0) (mc := 0) (ms := 0) dX11_wordNext_27 mw_J0_charAt_5068e rfl ml_X11_194 im_J0_charAt_5068e se_J0_charAt_5068e (by decide) rfl (Nat.le_of_ble_eq_true rfl) (k_charAt1 (fr := fr + 5) (j := 2) (by unfold vp_in; decide +kernel)) (fun v M1 hq => ?_)
  obtain ⟨rfl, hM1⟩ := hq
  rw [hM1]
  clear hM1 M1
  refine a_st (st2 := [.int 113]) (by first | decide +kernel | (refine congrArg (fun z => Value.int z :: []) ?_; decide +kernel) | (refine congrArg (fun z => Value.long z :: []) ?_; decide +kernel)) ?_
  refine a_bipush (v := 32) dX11_wordNext_30 (by decide) ?_
  refine a_icmp_eq 41 dX11_wordNext_32 (by decide) (fun c => absurd c (by decide)) (fun _ => ?_)
  refine a_iinc (v := 1) dX11_wordNext_35 rfl (by decide) (Nat.le_of_ble_eq_true rfl) (lv2 := [(4, .int 1), (2, .int 1), (3, .int 2), (6, .int 0), (5, .int 0), (1, .int 0), (0, .ref 89)]) rfl ?_
  refine a_goto 21 dX11_wordNext_38 (by decide) ?_
  refine a_ldcB dX11_wordNext_21 rfl ?_
  refine a_iload_n dX11_wordNext_23 rfl rfl ?_
  refine a_iload dX11_wordNext_24 rfl ?_
  refine a_iadd dX11_wordNext_26 ?_
  refine a_st (st2 := [.int 3, .ref 1000005]) (by first | decide +kernel | (refine congrArg (fun z => Value.int z :: [.ref 1000005]) ?_; decide +kernel) | (refine congrArg (fun z => Value.long z :: [.ref 1000005]) ?_; decide +kernel)) ?_
  refine a_callT (As := [.int 3]) (st := []) (i := 1) (bc := 0) (bs := 0) (mc := 0) (ms := 0) dX11_wordNext_27 mw_J0_charAt_5068e rfl ml_X11_194 im_J0_charAt_5068e se_J0_charAt_5068e (by decide) rfl (Nat.le_of_ble_eq_true rfl) (k_charAt1 (fr := fr + 5) (j := 3) (by unfold vp_in; decide +kernel)) (fun v M1 hq => ?_)
  obtain ⟨rfl, hM1⟩ := hq
  rw [hM1]
  clear hM1 M1
  refine a_st (st2 := [.int 32]) (by first | decide +kernel | (refine congrArg (fun z => Value.int z :: []) ?_; decide +kernel) | (refine congrArg (fun z => Value.long z :: []) ?_; decide +kernel)) ?_
  refine a_bipush (v := 32) dX11_wordNext_30 (by decide) ?_
  refine a_icmp_eq 41 dX11_wordNext_32 (by decide) (fun _ => ?_) (fun c => absurd (by decide) c)
  refine a_iload dX11_wordNext_41 rfl ?_
  refine a_iload_n dX11_wordNext_43 rfl rfl ?_
  refine a_icmp_ne 51 dX11_wordNext_44 (by decide) (fun _ => ?_) (fun c => absurd c (by decide))
  refine a_iconst (v := 0) dX11_wordNext_51 (by decide) ?_
  refine a_istore dX11_wordNext_52 (Nat.le_of_ble_eq_true rfl) (lv2 := [(5, .int 0), (4, .int 1), (2, .int 1), (3, .int 2), (6, .int 0), (1, .int 0), (0, .ref 89)]) rfl ?_
  refine a_iconst (v := 0) dX11_wordNext_54 (by decide) ?_
  refine a_istore dX11_wordNext_55 (Nat.le_of_ble_eq_true rfl) (lv2 := [(6, .int 0), (5, .int 0), (4, .int 1), (2, .int 1), (3, .int 2), (1, .int 0), (0, .ref 89)]) rfl ?_
  refine a_iload dX11_wordNext_57 rfl ?_
  refine a_iload dX11_wordNext_59 rfl ?_
  refine a_icmp_ge 106 dX11_wordNext_61 (by decide) (fun c => absurd c (by decide)) (fun _ => ?_)
  refine a_iload dX11_wordNext_64 rfl ?_
  refine a_if_eq 106 dX11_wordNext_66 (by decide) (fun _ => ?_) (fun c => absurd (by decide) c)
  refine a_iload dX11_wordNext_106 rfl ?_
  refine a_if_eq 113 dX11_wordNext_108 (by decide) (fun _ => ?_) (fun c => absurd (by decide) c)
  refine a_iload_n dX11_wordNext_113 rfl rfl ?_
  refine a_iload dX11_wordNext_114 rfl ?_
  refine a_iconst (v := 1) dX11_wordNext_116 (by decide) ?_
  refine a_iadd dX11_wordNext_117 ?_
  refine a_st (st2 := [.int 2, .int 2]) (by first | decide +kernel | (refine congrArg (fun z => Value.int z :: [.int 2]) ?_; decide +kernel) | (refine congrArg (fun z => Value.long z :: [.int 2]) ?_; decide +kernel)) ?_
  refine a_iadd dX11_wordNext_118 ?_
  refine a_st (st2 := [.int 4]) (by first | decide +kernel | (refine congrArg (fun z => Value.int z :: []) ?_; decide +kernel) | (refine congrArg (fun z => Value.long z :: []) ?_; decide +kernel)) ?_
  refine a_istore_n dX11_wordNext_119 rfl (Nat.le_of_ble_eq_true rfl) (lv2 := [(3, .int 4), (6, .int 0), (5, .int 0), (4, .int 1), (2, .int 1), (1, .int 0), (0, .ref 89)]) rfl ?_
  refine a_iinc (v := 2) dX11_wordNext_120 rfl (by decide) (Nat.le_of_ble_eq_true rfl) (lv2 := [(2, .int 2), (3, .int 4), (6, .int 0), (5, .int 0), (4, .int 1), (1, .int 0), (0, .ref 89)]) rfl ?_
  refine a_goto 9 dX11_wordNext_123 (by decide) ?_
  refine a_iload_n dX11_wordNext_9 rfl rfl ?_
  refine a_ldcB dX11_wordNext_10 rfl ?_
  refine a_callT (As := []) (st := [.int 4]) (i := 1) (bc := 0) (bs := 0) (mc := 0) (ms := 0) dX11_wordNext_12 mw_J0_length_8abf5 rfl ml_X11_189 im_J0_length_8abf5 se_J0_length_8abf5 (by decide) rfl (Nat.le_of_ble_eq_true rfl) (k_tlen1 (fr := fr + 7)) (fun v M1 hq => ?_)
  obtain ⟨rfl, hM1⟩ := hq
  rw [hM1]
  clear hM1 M1
  show AW X _ 0 0 15 _ [.int 74, .int 4] _ _
  refine a_icmp_ge 126 dX11_wordNext_15 (by decide) (fun c => absurd c (by decide)) (fun _ => ?_)
  refine a_iconst (v := 0) dX11_wordNext_18 (by decide) ?_
  refine a_istore dX11_wordNext_19 (Nat.le_of_ble_eq_true rfl) (lv2 := [(4, .int 0), (2, .int 2), (3, .int 4), (6, .int 0), (5, .int 0), (1, .int 0), (0, .ref 89)]) rfl ?_
  refine a_ldcB dX11_wordNext_21 rfl ?_
  refine a_iload_n dX11_wordNext_23 rfl rfl ?_
  refine a_iload dX11_wordNext_24 rfl ?_
  refine a_iadd dX11_wordNext_26 ?_
  refine a_st (st2 := [.int 4, .ref 1000005]) (by first | decide +kernel | (refine congrArg (fun z => Value.int z :: [.ref 1000005]) ?_; decide +kernel) | (refine congrArg (fun z => Value.long z :: [.ref 1000005]) ?_; decide +kernel)) ?_
  refine a_callT (As := [.int 4]) (st := []) (i := 1) (bc := 0) (bs := 0) (mc := 0) (ms := 0) dX11_wordNext_27 mw_J0_charAt_5068e rfl ml_X11_194 im_J0_charAt_5068e se_J0_charAt_5068e (by decide) rfl (Nat.le_of_ble_eq_true rfl) (k_charAt1 (fr := fr + 5) (j := 4) (by unfold vp_in; decide +kernel)) (fun v M1 hq => ?_)
  obtain ⟨rfl, hM1⟩ := hq
  rw [hM1]
  clear hM1 M1
  refine a_st (st2 := [.int 114]) (by first | decide +kernel | (refine congrArg (fun z => Value.int z :: []) ?_; decide +kernel) | (refine congrArg (fun z => Value.long z :: []) ?_; decide +kernel)) ?_
  refine a_bipush (v := 32) dX11_wordNext_30 (by decide) ?_
  refine a_icmp_eq 41 dX11_wordNext_32 (by decide) (fun c => absurd c (by decide)) (fun _ => ?_)
  refine a_iinc (v := 1) dX11_wordNext_35 rfl (by decide) (Nat.le_of_ble_eq_true rfl) (lv2 := [(4, .int 1), (2, .int 2), (3, .int 4), (6, .int 0), (5, .int 0), (1, .int 0), (0, .ref 89)]) rfl ?_
  refine a_goto 21 dX11_wordNext_38 (by decide) ?_
  refine a_ldcB dX11_wordNext_21 rfl ?_
  refine a_iload_n dX11_wordNext_23 rfl rfl ?_
  refine a_iload dX11_wordNext_24 rfl ?_
  refine a_iadd dX11_wordNext_26 ?_
  refine a_st (st2 := [.int 5, .ref 1000005]) (by first | decide +kernel | (refine congrArg (fun z => Value.int z :: [.ref 1000005]) ?_; decide +kernel) | (refine congrArg (fun z => Value.long z :: [.ref 1000005]) ?_; decide +kernel)) ?_
  refine a_callT (As := [.int 5]) (st := []) (i := 1) (bc := 0) (bs := 0) (mc := 0) (ms := 0) dX11_wordNext_27 mw_J0_charAt_5068e rfl ml_X11_194 im_J0_charAt_5068e se_J0_charAt_5068e (by decide) rfl (Nat.le_of_ble_eq_true rfl) (k_charAt1 (fr := fr + 5) (j := 5) (by unfold vp_in; decide +kernel)) (fun v M1 hq => ?_)
  obtain ⟨rfl, hM1⟩ := hq
  rw [hM1]
  clear hM1 M1
  refine a_st (st2 := [.int 32]) (by first | decide +kernel | (refine congrArg (fun z => Value.int z :: []) ?_; decide +kernel) | (refine congrArg (fun z => Value.long z :: []) ?_; decide +kernel)) ?_
  refine a_bipush (v := 32) dX11_wordNext_30 (by decide) ?_
  refine a_icmp_eq 41 dX11_wordNext_32 (by decide) (fun _ => ?_) (fun c => absurd (by decide) c)
  refine a_iload dX11_wordNext_41 rfl ?_
  refine a_iload_n dX11_wordNext_43 rfl rfl ?_
  refine a_icmp_ne 51 dX11_wordNext_44 (by decide) (fun _ => ?_) (fun c => absurd c (by decide))
  refine a_iconst (v := 0) dX11_wordNext_51 (by decide) ?_
  refine a_istore dX11_wordNext_52 (Nat.le_of_ble_eq_true rfl) (lv2 := [(5, .int 0), (4, .int 1), (2, .int 2), (3, .int 4), (6, .int 0), (1, .int 0), (0, .ref 89)]) rfl ?_
  refine a_iconst (v := 0) dX11_wordNext_54 (by decide) ?_
  refine a_istore dX11_wordNext_55 (Nat.le_of_ble_eq_true rfl) (lv2 := [(6, .int 0), (5, .int 0), (4, .int 1), (2, .int 2), (3, .int 4), (1, .int 0), (0, .ref 89)]) rfl ?_
  refine a_iload dX11_wordNext_57 rfl ?_
  refine a_iload dX11_wordNext_59 rfl ?_
  refine a_icmp_ge 106 dX11_wordNext_61 (by decide) (fun c => absurd c (by decide)) (fun _ => ?_)
  refine a_iload dX11_wordNext_64 rfl ?_
  refine a_if_eq 106 dX11_wordNext_66 (by decide) (fun _ => ?_) (fun c => absurd (by decide) c)
  refine a_iload dX11_wordNext_106 rfl ?_
  refine a_if_eq 113 dX11_wordNext_108 (by decide) (fun _ => ?_) (fun c => absurd (by decide) c)
  refine a_iload_n dX11_wordNext_113 rfl rfl ?_
  refine a_iload dX11_wordNext_114 rfl ?_
  refine a_iconst (v := 1) dX11_wordNext_116 (by decide) ?_
  refine a_iadd dX11_wordNext_117 ?_
  refine a_st (st2 := [.int 2, .int 4]) (by first | decide +kernel | (refine congrArg (fun z => Value.int z :: [.int 4]) ?_; decide +kernel) | (refine congrArg (fun z => Value.long z :: [.int 4]) ?_; decide +kernel)) ?_
  refine a_iadd dX11_wordNext_118 ?_
  refine a_st (st2 := [.int 6]) (by first | decide +kernel | (refine congrArg (fun z => Value.int z :: []) ?_; decide +kernel) | (refine congrArg (fun z => Value.long z :: []) ?_; decide +kernel)) ?_
  refine a_istore_n dX11_wordNext_119 rfl (Nat.le_of_ble_eq_true rfl) (lv2 := [(3, .int 6), (6, .int 0), (5, .int 0), (4, .int 1), (2, .int 2), (1, .int 0), (0, .ref 89)]) rfl ?_
  refine a_iinc (v := 3) dX11_wordNext_120 rfl (by decide) (Nat.le_of_ble_eq_true rfl) (lv2 := [(2, .int 3), (3, .int 6), (6, .int 0), (5, .int 0), (4, .int 1), (1, .int 0), (0, .ref 89)]) rfl ?_
  refine a_goto 9 dX11_wordNext_123 (by decide) ?_
  refine a_iload_n dX11_wordNext_9 rfl rfl ?_
  refine a_ldcB dX11_wordNext_10 rfl ?_
  refine a_callT (As := []) (st := [.int 6]) (i := 1) (bc := 0) (bs := 0) (mc := 0) (ms := 0) dX11_wordNext_12 mw_J0_length_8abf5 rfl ml_X11_189 im_J0_length_8abf5 se_J0_length_8abf5 (by decide) rfl (Nat.le_of_ble_eq_true rfl) (k_tlen1 (fr := fr + 7)) (fun v M1 hq => ?_)
  obtain ⟨rfl, hM1⟩ := hq
  rw [hM1]
  clear hM1 M1
  show AW X _ 0 0 15 _ [.int 74, .int 6] _ _
  refine a_icmp_ge 126 dX11_wordNext_15 (by decide) (fun c => absurd c (by decide)) (fun _ => ?_)
  refine a_iconst (v := 0) dX11_wordNext_18 (by decide) ?_
  refine a_istore dX11_wordNext_19 (Nat.le_of_ble_eq_true rfl) (lv2 := [(4, .int 0), (2, .int 3), (3, .int 6), (6, .int 0), (5, .int 0), (1, .int 0), (0, .ref 89)]) rfl ?_
  refine a_ldcB dX11_wordNext_21 rfl ?_
  refine a_iload_n dX11_wordNext_23 rfl rfl ?_
  refine a_iload dX11_wordNext_24 rfl ?_
  refine a_iadd dX11_wordNext_26 ?_
  refine a_st (st2 := [.int 6, .ref 1000005]) (by first | decide +kernel | (refine congrArg (fun z => Value.int z :: [.ref 1000005]) ?_; decide +kernel) | (refine congrArg (fun z => Value.long z :: [.ref 1000005]) ?_; decide +kernel)) ?_
  refine a_callT (As := [.int 6]) (st := []) (i := 1) (bc := 0) (bs := 0) (mc := 0) (ms := 0) dX11_wordNext_27 mw_J0_charAt_5068e rfl ml_X11_194 im_J0_charAt_5068e se_J0_charAt_5068e (by decide) rfl (Nat.le_of_ble_eq_true rfl) (k_charAt1 (fr := fr + 5) (j := 6) (by unfold vp_in; decide +kernel)) (fun v M1 hq => ?_)
  obtain ⟨rfl, hM1⟩ := hq
  rw [hM1]
  clear hM1 M1
  refine a_st (st2 := [.int 115]) (by first | decide +kernel | (refine congrArg (fun z => Value.int z :: []) ?_; decide +kernel) | (refine congrArg (fun z => Value.long z :: []) ?_; decide +kernel)) ?_
  refine a_bipush (v := 32) dX11_wordNext_30 (by decide) ?_
  refine a_icmp_eq 41 dX11_wordNext_32 (by decide) (fun c => absurd c (by decide)) (fun _ => ?_)
  refine a_iinc (v := 1) dX11_wordNext_35 rfl (by decide) (Nat.le_of_ble_eq_true rfl) (lv2 := [(4, .int 1), (2, .int 3), (3, .int 6), (6, .int 0), (5, .int 0), (1, .int 0), (0, .ref 89)]) rfl ?_
  refine a_goto 21 dX11_wordNext_38 (by decide) ?_
  refine a_ldcB dX11_wordNext_21 rfl ?_
  refine a_iload_n dX11_wordNext_23 rfl rfl ?_
  refine a_iload dX11_wordNext_24 rfl ?_
  refine a_iadd dX11_wordNext_26 ?_
  refine a_st (st2 := [.int 7, .ref 1000005]) (by first | decide +kernel | (refine congrArg (fun z => Value.int z :: [.ref 1000005]) ?_; decide +kernel) | (refine congrArg (fun z => Value.long z :: [.ref 1000005]) ?_; decide +kernel)) ?_
  refine a_callT (As := [.int 7]) (st := []) (i := 1) (bc := 0) (bs := 0) (mc := 0) (ms := 0) dX11_wordNext_27 mw_J0_charAt_5068e rfl ml_X11_194 im_J0_charAt_5068e se_J0_charAt_5068e (by decide) rfl (Nat.le_of_ble_eq_true rfl) (k_charAt1 (fr := fr + 5) (j := 7) (by unfold vp_in; decide +kernel)) (fun v M1 hq => ?_)
  obtain ⟨rfl, hM1⟩ := hq
  rw [hM1]
  clear hM1 M1
  refine a_st (st2 := [.int 32]) (by first | decide +kernel | (refine congrArg (fun z => Value.int z :: []) ?_; decide +kernel) | (refine congrArg (fun z => Value.long z :: []) ?_; decide +kernel)) ?_
  refine a_bipush (v := 32) dX11_wordNext_30 (by decide) ?_
  refine a_icmp_eq 41 dX11_wordNext_32 (by decide) (fun _ => ?_) (fun c => absurd (by decide) c)
  refine a_iload dX11_wordNext_41 rfl ?_
  refine a_iload_n dX11_wordNext_43 rfl rfl ?_
  refine a_icmp_ne 51 dX11_wordNext_44 (by decide) (fun _ => ?_) (fun c => absurd c (by decide))
  refine a_iconst (v := 0) dX11_wordNext_51 (by decide) ?_
  refine a_istore dX11_wordNext_52 (Nat.le_of_ble_eq_true rfl) (lv2 := [(5, .int 0), (4, .int 1), (2, .int 3), (3, .int 6), (6, .int 0), (1, .int 0), (0, .ref 89)]) rfl ?_
  refine a_iconst (v := 0) dX11_wordNext_54 (by decide) ?_
  refine a_istore dX11_wordNext_55 (Nat.le_of_ble_eq_true rfl) (lv2 := [(6, .int 0), (5, .int 0), (4, .int 1), (2, .int 3), (3, .int 6), (1, .int 0), (0, .ref 89)]) rfl ?_
  refine a_iload dX11_wordNext_57 rfl ?_
  refine a_iload dX11_wordNext_59 rfl ?_
  refine a_icmp_ge 106 dX11_wordNext_61 (by decide) (fun c => absurd c (by decide)) (fun _ => ?_)
  refine a_iload dX11_wordNext_64 rfl ?_
  refine a_if_eq 106 dX11_wordNext_66 (by decide) (fun _ => ?_) (fun c => absurd (by decide) c)
  refine a_iload dX11_wordNext_106 rfl ?_
  refine a_if_eq 113 dX11_wordNext_108 (by decide) (fun _ => ?_) (fun c => absurd (by decide) c)
  refine a_iload_n dX11_wordNext_113 rfl rfl ?_
  refine a_iload dX11_wordNext_114 rfl ?_
  refine a_iconst (v := 1) dX11_wordNext_116 (by decide) ?_
  refine a_iadd dX11_wordNext_117 ?_
  refine a_st (st2 := [.int 2, .int 6]) (by first | decide +kernel | (refine congrArg (fun z => Value.int z :: [.int 6]) ?_; decide +kernel) | (refine congrArg (fun z => Value.long z :: [.int 6]) ?_; decide +kernel)) ?_
  refine a_iadd dX11_wordNext_118 ?_
  refine a_st (st2 := [.int 8]) (by first | decide +kernel | (refine congrArg (fun z => Value.int z :: []) ?_; decide +kernel) | (refine congrArg (fun z => Value.long z :: []) ?_; decide +kernel)) ?_
  refine a_istore_n dX11_wordNext_119 rfl (Nat.le_of_ble_eq_true rfl) (lv2 := [(3, .int 8), (6, .int 0), (5, .int 0), (4, .int 1), (2, .int 3), (1, .int 0), (0, .ref 89)]) rfl ?_
  refine a_iinc (v := 4) dX11_wordNext_120 rfl (by decide) (Nat.le_of_ble_eq_true rfl) (lv2 := [(2, .int 4), (3, .int 8), (6, .int 0), (5, .int 0), (4, .int 1), (1, .int 0), (0, .ref 89)]) rfl ?_
  refine a_goto 9 dX11_wordNext_123 (by decide) ?_
  refine a_iload_n dX11_wordNext_9 rfl rfl ?_
  refine a_ldcB dX11_wordNext_10 rfl ?_
  refine a_callT (As := []) (st := [.int 8]) (i := 1) (bc := 0) (bs := 0) (mc := 0) (ms := 0) dX11_wordNext_12 mw_J0_length_8abf5 rfl ml_X11_189 im_J0_length_8abf5 se_J0_length_8abf5 (by decide) rfl (Nat.le_of_ble_eq_true rfl) (k_tlen1 (fr := fr + 7)) (fun v M1 hq => ?_)
  obtain ⟨rfl, hM1⟩ := hq
  rw [hM1]
  clear hM1 M1
  show AW X _ 0 0 15 _ [.int 74, .int 8] _ _
  refine a_icmp_ge 126 dX11_wordNext_15 (by decide) (fun c => absurd c (by decide)) (fun _ => ?_)
  refine a_iconst (v := 0) dX11_wordNext_18 (by decide) ?_
  refine a_istore dX11_wordNext_19 (Nat.le_of_ble_eq_true rfl) (lv2 := [(4, .int 0), (2, .int 4), (3, .int 8), (6, .int 0), (5, .int 0), (1, .int 0), (0, .ref 89)]) rfl ?_
  refine a_ldcB dX11_wordNext_21 rfl ?_
  refine a_iload_n dX11_wordNext_23 rfl rfl ?_
  refine a_iload dX11_wordNext_24 rfl ?_
  refine a_iadd dX11_wordNext_26 ?_
  refine a_st (st2 := [.int 8, .ref 1000005]) (by first | decide +kernel | (refine congrArg (fun z => Value.int z :: [.ref 1000005]) ?_; decide +kernel) | (refine congrArg (fun z => Value.long z :: [.ref 1000005]) ?_; decide +kernel)) ?_
  refine a_callT (As := [.int 8]) (st := []) (i := 1) (bc := 0) (bs := 0) (mc := 0) (ms := 0) dX11_wordNext_27 mw_J0_charAt_5068e rfl ml_X11_194 im_J0_charAt_5068e se_J0_charAt_5068e (by decide) rfl (Nat.le_of_ble_eq_true rfl) (k_charAt1 (fr := fr + 5) (j := 8) (by unfold vp_in; decide +kernel)) (fun v M1 hq => ?_)
  obtain ⟨rfl, hM1⟩ := hq
  rw [hM1]
  clear hM1 M1
  refine a_st (st2 := [.int 116]) (by first | decide +kernel | (refine congrArg (fun z => Value.int z :: []) ?_; decide +kernel) | (refine congrArg (fun z => Value.long z :: []) ?_; decide +kernel)) ?_
  refine a_bipush (v := 32) dX11_wordNext_30 (by decide) ?_
  refine a_icmp_eq 41 dX11_wordNext_32 (by decide) (fun c => absurd c (by decide)) (fun _ => ?_)
  refine a_iinc (v := 1) dX11_wordNext_35 rfl (by decide) (Nat.le_of_ble_eq_true rfl) (lv2 := [(4, .int 1), (2, .int 4), (3, .int 8), (6, .int 0), (5, .int 0), (1, .int 0), (0, .ref 89)]) rfl ?_
  refine a_goto 21 dX11_wordNext_38 (by decide) ?_
  refine a_ldcB dX11_wordNext_21 rfl ?_
  refine a_iload_n dX11_wordNext_23 rfl rfl ?_
  refine a_iload dX11_wordNext_24 rfl ?_
  refine a_iadd dX11_wordNext_26 ?_
  refine a_st (st2 := [.int 9, .ref 1000005]) (by first | decide +kernel | (refine congrArg (fun z => Value.int z :: [.ref 1000005]) ?_; decide +kernel) | (refine congrArg (fun z => Value.long z :: [.ref 1000005]) ?_; decide +kernel)) ?_
  refine a_callT (As := [.int 9]) (st := []) (i := 1) (bc := 0) (bs := 0) (mc := 0) (ms := 0) dX11_wordNext_27 mw_J0_charAt_5068e rfl ml_X11_194 im_J0_charAt_5068e se_J0_charAt_5068e (by decide) rfl (Nat.le_of_ble_eq_true rfl) (k_charAt1 (fr := fr + 5) (j := 9) (by unfold vp_in; decide +kernel)) (fun v M1 hq => ?_)
  obtain ⟨rfl, hM1⟩ := hq
  rw [hM1]
  clear hM1 M1
  refine a_st (st2 := [.int 32]) (by first | decide +kernel | (refine congrArg (fun z => Value.int z :: []) ?_; decide +kernel) | (refine congrArg (fun z => Value.long z :: []) ?_; decide +kernel)) ?_
  refine a_bipush (v := 32) dX11_wordNext_30 (by decide) ?_
  refine a_icmp_eq 41 dX11_wordNext_32 (by decide) (fun _ => ?_) (fun c => absurd (by decide) c)
  refine a_iload dX11_wordNext_41 rfl ?_
  refine a_iload_n dX11_wordNext_43 rfl rfl ?_
  refine a_icmp_ne 51 dX11_wordNext_44 (by decide) (fun _ => ?_) (fun c => absurd c (by decide))
  refine a_iconst (v := 0) dX11_wordNext_51 (by decide) ?_
  refine a_istore dX11_wordNext_52 (Nat.le_of_ble_eq_true rfl) (lv2 := [(5, .int 0), (4, .int 1), (2, .int 4), (3, .int 8), (6, .int 0), (1, .int 0), (0, .ref 89)]) rfl ?_
  refine a_iconst (v := 0) dX11_wordNext_54 (by decide) ?_
  refine a_istore dX11_wordNext_55 (Nat.le_of_ble_eq_true rfl) (lv2 := [(6, .int 0), (5, .int 0), (4, .int 1), (2, .int 4), (3, .int 8), (1, .int 0), (0, .ref 89)]) rfl ?_
  refine a_iload dX11_wordNext_57 rfl ?_
  refine a_iload dX11_wordNext_59 rfl ?_
  refine a_icmp_ge 106 dX11_wordNext_61 (by decide) (fun c => absurd c (by decide)) (fun _ => ?_)
  refine a_iload dX11_wordNext_64 rfl ?_
  refine a_if_eq 106 dX11_wordNext_66 (by decide) (fun _ => ?_) (fun c => absurd (by decide) c)
  refine a_iload dX11_wordNext_106 rfl ?_
  refine a_if_eq 113 dX11_wordNext_108 (by decide) (fun _ => ?_) (fun c => absurd (by decide) c)
  refine a_iload_n dX11_wordNext_113 rfl rfl ?_
  refine a_iload dX11_wordNext_114 rfl ?_
  refine a_iconst (v := 1) dX11_wordNext_116 (by decide) ?_
  refine a_iadd dX11_wordNext_117 ?_
  refine a_st (st2 := [.int 2, .int 8]) (by first | decide +kernel | (refine congrArg (fun z => Value.int z :: [.int 8]) ?_; decide +kernel) | (refine congrArg (fun z => Value.long z :: [.int 8]) ?_; decide +kernel)) ?_
  refine a_iadd dX11_wordNext_118 ?_
  refine a_st (st2 := [.int 10]) (by first | decide +kernel | (refine congrArg (fun z => Value.int z :: []) ?_; decide +kernel) | (refine congrArg (fun z => Value.long z :: []) ?_; decide +kernel)) ?_
  refine a_istore_n dX11_wordNext_119 rfl (Nat.le_of_ble_eq_true rfl) (lv2 := [(3, .int 10), (6, .int 0), (5, .int 0), (4, .int 1), (2, .int 4), (1, .int 0), (0, .ref 89)]) rfl ?_
  refine a_iinc (v := 5) dX11_wordNext_120 rfl (by decide) (Nat.le_of_ble_eq_true rfl) (lv2 := [(2, .int 5), (3, .int 10), (6, .int 0), (5, .int 0), (4, .int 1), (1, .int 0), (0, .ref 89)]) rfl ?_
  refine a_goto 9 dX11_wordNext_123 (by decide) ?_
  refine a_iload_n dX11_wordNext_9 rfl rfl ?_
  refine a_ldcB dX11_wordNext_10 rfl ?_
  refine a_callT (As := []) (st := [.int 10]) (i := 1) (bc := 0) (bs := 0) (mc := 0) (ms := 0) dX11_wordNext_12 mw_J0_length_8abf5 rfl ml_X11_189 im_J0_length_8abf5 se_J0_length_8abf5 (by decide) rfl (Nat.le_of_ble_eq_true rfl) (k_tlen1 (fr := fr + 7)) (fun v M1 hq => ?_)
  obtain ⟨rfl, hM1⟩ := hq
  rw [hM1]
  clear hM1 M1
  show AW X _ 0 0 15 _ [.int 74, .int 10] _ _
  refine a_icmp_ge 126 dX11_wordNext_15 (by decide) (fun c => absurd c (by decide)) (fun _ => ?_)
  refine a_iconst (v := 0) dX11_wordNext_18 (by decide) ?_
  refine a_istore dX11_wordNext_19 (Nat.le_of_ble_eq_true rfl) (lv2 := [(4, .int 0), (2, .int 5), (3, .int 10), (6, .int 0), (5, .int 0), (1, .int 0), (0, .ref 89)]) rfl ?_
  refine a_ldcB dX11_wordNext_21 rfl ?_
  refine a_iload_n dX11_wordNext_23 rfl rfl ?_
  refine a_iload dX11_wordNext_24 rfl ?_
  refine a_iadd dX11_wordNext_26 ?_
  refine a_st (st2 := [.int 10, .ref 1000005]) (by first | decide +kernel | (refine congrArg (fun z => Value.int z :: [.ref 1000005]) ?_; decide +kernel) | (refine congrArg (fun z => Value.long z :: [.ref 1000005]) ?_; decide +kernel)) ?_
  refine a_callT (As := [.int 10]) (st := []) (i := 1) (bc := 0) (bs := 0) (mc := 0) (ms := 0) dX11_wordNext_27 mw_J0_charAt_5068e rfl ml_X11_194 im_J0_charAt_5068e se_J0_charAt_5068e (by decide) rfl (Nat.le_of_ble_eq_true rfl) (k_charAt1 (fr := fr + 5) (j := 10) (by unfold vp_in; decide +kernel)) (fun v M1 hq => ?_)
  obtain ⟨rfl, hM1⟩ := hq
  rw [hM1]
  clear hM1 M1
  refine a_st (st2 := [.int 117]) (by first | decide +kernel | (refine congrArg (fun z => Value.int z :: []) ?_; decide +kernel) | (refine congrArg (fun z => Value.long z :: []) ?_; decide +kernel)) ?_
  refine a_bipush (v := 32) dX11_wordNext_30 (by decide) ?_
  refine a_icmp_eq 41 dX11_wordNext_32 (by decide) (fun c => absurd c (by decide)) (fun _ => ?_)
  refine a_iinc (v := 1) dX11_wordNext_35 rfl (by decide) (Nat.le_of_ble_eq_true rfl) (lv2 := [(4, .int 1), (2, .int 5), (3, .int 10), (6, .int 0), (5, .int 0), (1, .int 0), (0, .ref 89)]) rfl ?_
  refine a_goto 21 dX11_wordNext_38 (by decide) ?_
  refine a_ldcB dX11_wordNext_21 rfl ?_
  refine a_iload_n dX11_wordNext_23 rfl rfl ?_
  refine a_iload dX11_wordNext_24 rfl ?_
  refine a_iadd dX11_wordNext_26 ?_
  refine a_st (st2 := [.int 11, .ref 1000005]) (by first | decide +kernel | (refine congrArg (fun z => Value.int z :: [.ref 1000005]) ?_; decide +kernel) | (refine congrArg (fun z => Value.long z :: [.ref 1000005]) ?_; decide +kernel)) ?_
  refine a_callT (As := [.int 11]) (st := []) (i := 1) (bc := 0) (bs := 0) (mc := 0) (ms := 0) dX11_wordNext_27 mw_J0_charAt_5068e rfl ml_X11_194 im_J0_charAt_5068e se_J0_charAt_5068e (by decide) rfl (Nat.le_of_ble_eq_true rfl) (k_charAt1 (fr := fr + 5) (j := 11) (by unfold vp_in; decide +kernel)) (fun v M1 hq => ?_)
  obtain ⟨rfl, hM1⟩ := hq
  rw [hM1]
  clear hM1 M1
  refine a_st (st2 := [.int 32]) (by first | decide +kernel | (refine congrArg (fun z => Value.int z :: []) ?_; decide +kernel) | (refine congrArg (fun z => Value.long z :: []) ?_; decide +kernel)) ?_
  refine a_bipush (v := 32) dX11_wordNext_30 (by decide) ?_
  refine a_icmp_eq 41 dX11_wordNext_32 (by decide) (fun _ => ?_) (fun c => absurd (by decide) c)
  refine a_iload dX11_wordNext_41 rfl ?_
  refine a_iload_n dX11_wordNext_43 rfl rfl ?_
  refine a_icmp_ne 51 dX11_wordNext_44 (by decide) (fun _ => ?_) (fun c => absurd c (by decide))
  refine a_iconst (v := 0) dX11_wordNext_51 (by decide) ?_
  refine a_istore dX11_wordNext_52 (Nat.le_of_ble_eq_true rfl) (lv2 := [(5, .int 0), (4, .int 1), (2, .int 5), (3, .int 10), (6, .int 0), (1, .int 0), (0, .ref 89)]) rfl ?_
  refine a_iconst (v := 0) dX11_wordNext_54 (by decide) ?_
  refine a_istore dX11_wordNext_55 (Nat.le_of_ble_eq_true rfl) (lv2 := [(6, .int 0), (5, .int 0), (4, .int 1), (2, .int 5), (3, .int 10), (1, .int 0), (0, .ref 89)]) rfl ?_
  refine a_iload dX11_wordNext_57 rfl ?_
  refine a_iload dX11_wordNext_59 rfl ?_
  refine a_icmp_ge 106 dX11_wordNext_61 (by decide) (fun c => absurd c (by decide)) (fun _ => ?_)
  refine a_iload dX11_wordNext_64 rfl ?_
  refine a_if_eq 106 dX11_wordNext_66 (by decide) (fun _ => ?_) (fun c => absurd (by decide) c)
  refine a_iload dX11_wordNext_106 rfl ?_
  refine a_if_eq 113 dX11_wordNext_108 (by decide) (fun _ => ?_) (fun c => absurd (by decide) c)
  refine a_iload_n dX11_wordNext_113 rfl rfl ?_
  refine a_iload dX11_wordNext_114 rfl ?_
  refine a_iconst (v := 1) dX11_wordNext_116 (by decide) ?_
  refine a_iadd dX11_wordNext_117 ?_
  refine a_st (st2 := [.int 2, .int 10]) (by first | decide +kernel | (refine congrArg (fun z => Value.int z :: [.int 10]) ?_; decide +kernel) | (refine congrArg (fun z => Value.long z :: [.int 10]) ?_; decide +kernel)) ?_
  refine a_iadd dX11_wordNext_118 ?_
  refine a_st (st2 := [.int 12]) (by first | decide +kernel | (refine congrArg (fun z => Value.int z :: []) ?_; decide +kernel) | (refine congrArg (fun z => Value.long z :: []) ?_; decide +kernel)) ?_
  refine a_istore_n dX11_wordNext_119 rfl (Nat.le_of_ble_eq_true rfl) (lv2 := [(3, .int 12), (6, .int 0), (5, .int 0), (4, .int 1), (2, .int 5), (1, .int 0), (0, .ref 89)]) rfl ?_
  refine a_iinc (v := 6) dX11_wordNext_120 rfl (by decide) (Nat.le_of_ble_eq_true rfl) (lv2 := [(2, .int 6), (3, .int 12), (6, .int 0), (5, .int 0), (4, .int 1), (1, .int 0), (0, .ref 89)]) rfl ?_
  refine a_goto 9 dX11_wordNext_123 (by decide) ?_
  refine a_iload_n dX11_wordNext_9 rfl rfl ?_
  refine a_ldcB dX11_wordNext_10 rfl ?_
  refine a_callT (As := []) (st := [.int 12]) (i := 1) (bc := 0) (bs := 0) (mc := 0) (ms := 0) dX11_wordNext_12 mw_J0_length_8abf5 rfl ml_X11_189 im_J0_length_8abf5 se_J0_length_8abf5 (by decide) rfl (Nat.le_of_ble_eq_true rfl) (k_tlen1 (fr := fr + 7)) (fun v M1 hq => ?_)
  obtain ⟨rfl, hM1⟩ := hq
  rw [hM1]
  clear hM1 M1
  show AW X _ 0 0 15 _ [.int 74, .int 12] _ _
  refine a_icmp_ge 126 dX11_wordNext_15 (by decide) (fun c => absurd c (by decide)) (fun _ => ?_)
  refine a_iconst (v := 0) dX11_wordNext_18 (by decide) ?_
  refine a_istore dX11_wordNext_19 (Nat.le_of_ble_eq_true rfl) (lv2 := [(4, .int 0), (2, .int 6), (3, .int 12), (6, .int 0), (5, .int 0), (1, .int 0), (0, .ref 89)]) rfl ?_
  refine a_ldcB dX11_wordNext_21 rfl ?_
  refine a_iload_n dX11_wordNext_23 rfl rfl ?_
  refine a_iload dX11_wordNext_24 rfl ?_
  refine a_iadd dX11_wordNext_26 ?_
  refine a_st (st2 := [.int 12, .ref 1000005]) (by first | decide +kernel | (refine congrArg (fun z => Value.int z :: [.ref 1000005]) ?_; decide +kernel) | (refine congrArg (fun z => Value.long z :: [.ref 1000005]) ?_; decide +kernel)) ?_
  refine a_callT (As := [.int 12]) (st := []) (i := 1) (bc := 0) (bs := 0) (mc := 0) (ms := 0) dX11_wordNext_27 mw_J0_charAt_5068e rfl ml_X11_194 im_J0_charAt_5068e se_J0_charAt_5068e (by decide) rfl (Nat.le_of_ble_eq_true rfl) (k_charAt1 (fr := fr + 5) (j := 12) (by unfold vp_in; decide +kernel)) (fun v M1 hq => ?_)
  obtain ⟨rfl, hM1⟩ := hq
  rw [hM1]
  clear hM1 M1
  refine a_st (st2 := [.int 118]) (by first | decide +kernel | (refine congrArg (fun z => Value.int z :: []) ?_; decide +kernel) | (refine congrArg (fun z => Value.long z :: []) ?_; decide +kernel)) ?_
  refine a_bipush (v := 32) dX11_wordNext_30 (by decide) ?_
  refine a_icmp_eq 41 dX11_wordNext_32 (by decide) (fun c => absurd c (by decide)) (fun _ => ?_)
  refine a_iinc (v := 1) dX11_wordNext_35 rfl (by decide) (Nat.le_of_ble_eq_true rfl) (lv2 := [(4, .int 1), (2, .int 6), (3, .int 12), (6, .int 0), (5, .int 0), (1, .int 0), (0, .ref 89)]) rfl ?_
  refine a_goto 21 dX11_wordNext_38 (by decide) ?_
  refine a_ldcB dX11_wordNext_21 rfl ?_
  refine a_iload_n dX11_wordNext_23 rfl rfl ?_
  refine a_iload dX11_wordNext_24 rfl ?_
  refine a_iadd dX11_wordNext_26 ?_
  refine a_st (st2 := [.int 13, .ref 1000005]) (by first | decide +kernel | (refine congrArg (fun z => Value.int z :: [.ref 1000005]) ?_; decide +kernel) | (refine congrArg (fun z => Value.long z :: [.ref 1000005]) ?_; decide +kernel)) ?_
  refine a_callT (As := [.int 13]) (st := []) (i := 1) (bc := 0) (bs := 0) (mc := 0) (ms := 0) dX11_wordNext_27 mw_J0_charAt_5068e rfl ml_X11_194 im_J0_charAt_5068e se_J0_charAt_5068e (by decide) rfl (Nat.le_of_ble_eq_true rfl) (k_charAt1 (fr := fr + 5) (j := 13) (by unfold vp_in; decide +kernel)) (fun v M1 hq => ?_)
  obtain ⟨rfl, hM1⟩ := hq
  rw [hM1]
  clear hM1 M1
  refine a_st (st2 := [.int 32]) (by first | decide +kernel | (refine congrArg (fun z => Value.int z :: []) ?_; decide +kernel) | (refine congrArg (fun z => Value.long z :: []) ?_; decide +kernel)) ?_
  refine a_bipush (v := 32) dX11_wordNext_30 (by decide) ?_
  refine a_icmp_eq 41 dX11_wordNext_32 (by decide) (fun _ => ?_) (fun c => absurd (by decide) c)
  refine a_iload dX11_wordNext_41 rfl ?_
  refine a_iload_n dX11_wordNext_43 rfl rfl ?_
  refine a_icmp_ne 51 dX11_wordNext_44 (by decide) (fun _ => ?_) (fun c => absurd c (by decide))
  refine a_iconst (v := 0) dX11_wordNext_51 (by decide) ?_
  refine a_istore dX11_wordNext_52 (Nat.le_of_ble_eq_true rfl) (lv2 := [(5, .int 0), (4, .int 1), (2, .int 6), (3, .int 12), (6, .int 0), (1, .int 0), (0, .ref 89)]) rfl ?_
  refine a_iconst (v := 0) dX11_wordNext_54 (by decide) ?_
  refine a_istore dX11_wordNext_55 (Nat.le_of_ble_eq_true rfl) (lv2 := [(6, .int 0), (5, .int 0), (4, .int 1), (2, .int 6), (3, .int 12), (1, .int 0), (0, .ref 89)]) rfl ?_
  refine a_iload dX11_wordNext_57 rfl ?_
  refine a_iload dX11_wordNext_59 rfl ?_
  refine a_icmp_ge 106 dX11_wordNext_61 (by decide) (fun c => absurd c (by decide)) (fun _ => ?_)
  refine a_iload dX11_wordNext_64 rfl ?_
  refine a_if_eq 106 dX11_wordNext_66 (by decide) (fun _ => ?_) (fun c => absurd (by decide) c)
  refine a_iload dX11_wordNext_106 rfl ?_
  refine a_if_eq 113 dX11_wordNext_108 (by decide) (fun _ => ?_) (fun c => absurd (by decide) c)
  refine a_iload_n dX11_wordNext_113 rfl rfl ?_
  refine a_iload dX11_wordNext_114 rfl ?_
  refine a_iconst (v := 1) dX11_wordNext_116 (by decide) ?_
  refine a_iadd dX11_wordNext_117 ?_
  refine a_st (st2 := [.int 2, .int 12]) (by first | decide +kernel | (refine congrArg (fun z => Value.int z :: [.int 12]) ?_; decide +kernel) | (refine congrArg (fun z => Value.long z :: [.int 12]) ?_; decide +kernel)) ?_
  refine a_iadd dX11_wordNext_118 ?_
  refine a_st (st2 := [.int 14]) (by first | decide +kernel | (refine congrArg (fun z => Value.int z :: []) ?_; decide +kernel) | (refine congrArg (fun z => Value.long z :: []) ?_; decide +kernel)) ?_
  refine a_istore_n dX11_wordNext_119 rfl (Nat.le_of_ble_eq_true rfl) (lv2 := [(3, .int 14), (6, .int 0), (5, .int 0), (4, .int 1), (2, .int 6), (1, .int 0), (0, .ref 89)]) rfl ?_
  refine a_iinc (v := 7) dX11_wordNext_120 rfl (by decide) (Nat.le_of_ble_eq_true rfl) (lv2 := [(2, .int 7), (3, .int 14), (6, .int 0), (5, .int 0), (4, .int 1), (1, .int 0), (0, .ref 89)]) rfl ?_
  refine a_goto 9 dX11_wordNext_123 (by decide) ?_
  refine a_iload_n dX11_wordNext_9 rfl rfl ?_
  refine a_ldcB dX11_wordNext_10 rfl ?_
  refine a_callT (As := []) (st := [.int 14]) (i := 1) (bc := 0) (bs := 0) (mc := 0) (ms := 0) dX11_wordNext_12 mw_J0_length_8abf5 rfl ml_X11_189 im_J0_length_8abf5 se_J0_length_8abf5 (by decide) rfl (Nat.le_of_ble_eq_true rfl) (k_tlen1 (fr := fr + 7)) (fun v M1 hq => ?_)
  obtain ⟨rfl, hM1⟩ := hq
  rw [hM1]
  clear hM1 M1
  show AW X _ 0 0 15 _ [.int 74, .int 14] _ _
  refine a_icmp_ge 126 dX11_wordNext_15 (by decide) (fun c => absurd c (by decide)) (fun _ => ?_)
  refine a_iconst (v := 0) dX11_wordNext_18 (by decide) ?_
  refine a_istore dX11_wordNext_19 (Nat.le_of_ble_eq_true rfl) (lv2 := [(4, .int 0), (2, .int 7), (3, .int 14), (6, .int 0), (5, .int 0), (1, .int 0), (0, .ref 89)]) rfl ?_
  refine a_ldcB dX11_wordNext_21 rfl ?_
  refine a_iload_n dX11_wordNext_23 rfl rfl ?_
  refine a_iload dX11_wordNext_24 rfl ?_
  refine a_iadd dX11_wordNext_26 ?_
  refine a_st (st2 := [.int 14, .ref 1000005]) (by first | decide +kernel | (refine congrArg (fun z => Value.int z :: [.ref 1000005]) ?_; decide +kernel) | (refine congrArg (fun z => Value.long z :: [.ref 1000005]) ?_; decide +kernel)) ?_
  refine a_callT (As := [.int 14]) (st := []) (i := 1) (bc := 0) (bs := 0) (mc := 0) (ms := 0) dX11_wordNext_27 mw_J0_charAt_5068e rfl ml_X11_194 im_J0_charAt_5068e se_J0_charAt_5068e (by decide) rfl (Nat.le_of_ble_eq_true rfl) (k_charAt1 (fr := fr + 5) (j := 14) (by unfold vp_in; decide +kernel)) (fun v M1 hq => ?_)
  obtain ⟨rfl, hM1⟩ := hq
  rw [hM1]
  clear hM1 M1
  refine a_st (st2 := [.int 119]) (by first | decide +kernel | (refine congrArg (fun z => Value.int z :: []) ?_; decide +kernel) | (refine congrArg (fun z => Value.long z :: []) ?_; decide +kernel)) ?_
  refine a_bipush (v := 32) dX11_wordNext_30 (by decide) ?_
  refine a_icmp_eq 41 dX11_wordNext_32 (by decide) (fun c => absurd c (by decide)) (fun _ => ?_)
  refine a_iinc (v := 1) dX11_wordNext_35 rfl (by decide) (Nat.le_of_ble_eq_true rfl) (lv2 := [(4, .int 1), (2, .int 7), (3, .int 14), (6, .int 0), (5, .int 0), (1, .int 0), (0, .ref 89)]) rfl ?_
  refine a_goto 21 dX11_wordNext_38 (by decide) ?_
  refine a_ldcB dX11_wordNext_21 rfl ?_
  refine a_iload_n dX11_wordNext_23 rfl rfl ?_
  refine a_iload dX11_wordNext_24 rfl ?_
  refine a_iadd dX11_wordNext_26 ?_
  refine a_st (st2 := [.int 15, .ref 1000005]) (by first | decide +kernel | (refine congrArg (fun z => Value.int z :: [.ref 1000005]) ?_; decide +kernel) | (refine congrArg (fun z => Value.long z :: [.ref 1000005]) ?_; decide +kernel)) ?_
  refine a_callT (As := [.int 15]) (st := []) (i := 1) (bc := 0) (bs := 0) (mc := 0) (ms := 0) dX11_wordNext_27 mw_J0_charAt_5068e rfl ml_X11_194 im_J0_charAt_5068e se_J0_charAt_5068e (by decide) rfl (Nat.le_of_ble_eq_true rfl) (k_charAt1 (fr := fr + 5) (j := 15) (by unfold vp_in; decide +kernel)) (fun v M1 hq => ?_)
  obtain ⟨rfl, hM1⟩ := hq
  rw [hM1]
  clear hM1 M1
  refine a_st (st2 := [.int 32]) (by first | decide +kernel | (refine congrArg (fun z => Value.int z :: []) ?_; decide +kernel) | (refine congrArg (fun z => Value.long z :: []) ?_; decide +kernel)) ?_
  refine a_bipush (v := 32) dX11_wordNext_30 (by decide) ?_
  refine a_icmp_eq 41 dX11_wordNext_32 (by decide) (fun _ => ?_) (fun c => absurd (by decide) c)
  refine a_iload dX11_wordNext_41 rfl ?_
  refine a_iload_n dX11_wordNext_43 rfl rfl ?_
  refine a_icmp_ne 51 dX11_wordNext_44 (by decide) (fun _ => ?_) (fun c => absurd c (by decide))
  refine a_iconst (v := 0) dX11_wordNext_51 (by decide) ?_
  refine a_istore dX11_wordNext_52 (Nat.le_of_ble_eq_true rfl) (lv2 := [(5, .int 0), (4, .int 1), (2, .int 7), (3, .int 14), (6, .int 0), (1, .int 0), (0, .ref 89)]) rfl ?_
  refine a_iconst (v := 0) dX11_wordNext_54 (by decide) ?_
  refine a_istore dX11_wordNext_55 (Nat.le_of_ble_eq_true rfl) (lv2 := [(6, .int 0), (5, .int 0), (4, .int 1), (2, .int 7), (3, .int 14), (1, .int 0), (0, .ref 89)]) rfl ?_
  refine a_iload dX11_wordNext_57 rfl ?_
  refine a_iload dX11_wordNext_59 rfl ?_
  refine a_icmp_ge 106 dX11_wordNext_61 (by decide) (fun c => absurd c (by decide)) (fun _ => ?_)
  refine a_iload dX11_wordNext_64 rfl ?_
  refine a_if_eq 106 dX11_wordNext_66 (by decide) (fun _ => ?_) (fun c => absurd (by decide) c)
  refine a_iload dX11_wordNext_106 rfl ?_
  refine a_if_eq 113 dX11_wordNext_108 (by decide) (fun _ => ?_) (fun c => absurd (by decide) c)
  refine a_iload_n dX11_wordNext_113 rfl rfl ?_
  refine a_iload dX11_wordNext_114 rfl ?_
  refine a_iconst (v := 1) dX11_wordNext_116 (by decide) ?_
  refine a_iadd dX11_wordNext_117 ?_
  refine a_st (st2 := [.int 2, .int 14]) (by first | decide +kernel | (refine congrArg (fun z => Value.int z :: [.int 14]) ?_; decide +kernel) | (refine congrArg (fun z => Value.long z :: [.int 14]) ?_; decide +kernel)) ?_
  refine a_iadd dX11_wordNext_118 ?_
  refine a_st (st2 := [.int 16]) (by first | decide +kernel | (refine congrArg (fun z => Value.int z :: []) ?_; decide +kernel) | (refine congrArg (fun z => Value.long z :: []) ?_; decide +kernel)) ?_
  refine a_istore_n dX11_wordNext_119 rfl (Nat.le_of_ble_eq_true rfl) (lv2 := [(3, .int 16), (6, .int 0), (5, .int 0), (4, .int 1), (2, .int 7), (1, .int 0), (0, .ref 89)]) rfl ?_
  refine a_iinc (v := 8) dX11_wordNext_120 rfl (by decide) (Nat.le_of_ble_eq_true rfl) (lv2 := [(2, .int 8), (3, .int 16), (6, .int 0), (5, .int 0), (4, .int 1), (1, .int 0), (0, .ref 89)]) rfl ?_
  refine a_goto 9 dX11_wordNext_123 (by decide) ?_
  refine a_iload_n dX11_wordNext_9 rfl rfl ?_
  refine a_ldcB dX11_wordNext_10 rfl ?_
  refine a_callT (As := []) (st := [.int 16]) (i := 1) (bc := 0) (bs := 0) (mc := 0) (ms := 0) dX11_wordNext_12 mw_J0_length_8abf5 rfl ml_X11_189 im_J0_length_8abf5 se_J0_length_8abf5 (by decide) rfl (Nat.le_of_ble_eq_true rfl) (k_tlen1 (fr := fr + 7)) (fun v M1 hq => ?_)
  obtain ⟨rfl, hM1⟩ := hq
  rw [hM1]
  clear hM1 M1
  show AW X _ 0 0 15 _ [.int 74, .int 16] _ _
  refine a_icmp_ge 126 dX11_wordNext_15 (by decide) (fun c => absurd c (by decide)) (fun _ => ?_)
  refine a_iconst (v := 0) dX11_wordNext_18 (by decide) ?_
  refine a_istore dX11_wordNext_19 (Nat.le_of_ble_eq_true rfl) (lv2 := [(4, .int 0), (2, .int 8), (3, .int 16), (6, .int 0), (5, .int 0), (1, .int 0), (0, .ref 89)]) rfl ?_
  refine a_ldcB dX11_wordNext_21 rfl ?_
  refine a_iload_n dX11_wordNext_23 rfl rfl ?_
  refine a_iload dX11_wordNext_24 rfl ?_
  refine a_iadd dX11_wordNext_26 ?_
  refine a_st (st2 := [.int 16, .ref 1000005]) (by first | decide +kernel | (refine congrArg (fun z => Value.int z :: [.ref 1000005]) ?_; decide +kernel) | (refine congrArg (fun z => Value.long z :: [.ref 1000005]) ?_; decide +kernel)) ?_
  refine a_callT (As := [.int 16]) (st := []) (i := 1) (bc := 0) (bs := 0) (mc := 0) (ms := 0) dX11_wordNext_27 mw_J0_charAt_5068e rfl ml_X11_194 im_J0_charAt_5068e se_J0_charAt_5068e (by decide) rfl (Nat.le_of_ble_eq_true rfl) (k_charAt1 (fr := fr + 5) (j := 16) (by unfold vp_in; decide +kernel)) (fun v M1 hq => ?_)
  obtain ⟨rfl, hM1⟩ := hq
  rw [hM1]
  clear hM1 M1
  refine a_st (st2 := [.int 110]) (by first | decide +kernel | (refine congrArg (fun z => Value.int z :: []) ?_; decide +kernel) | (refine congrArg (fun z => Value.long z :: []) ?_; decide +kernel)) ?_
  refine a_bipush (v := 32) dX11_wordNext_30 (by decide) ?_
  refine a_icmp_eq 41 dX11_wordNext_32 (by decide) (fun c => absurd c (by decide)) (fun _ => ?_)
  refine a_iinc (v := 1) dX11_wordNext_35 rfl (by decide) (Nat.le_of_ble_eq_true rfl) (lv2 := [(4, .int 1), (2, .int 8), (3, .int 16), (6, .int 0), (5, .int 0), (1, .int 0), (0, .ref 89)]) rfl ?_
  refine a_goto 21 dX11_wordNext_38 (by decide) ?_
  refine a_ldcB dX11_wordNext_21 rfl ?_
  refine a_iload_n dX11_wordNext_23 rfl rfl ?_
  refine a_iload dX11_wordNext_24 rfl ?_
  refine a_iadd dX11_wordNext_26 ?_
  refine a_st (st2 := [.int 17, .ref 1000005]) (by first | decide +kernel | (refine congrArg (fun z => Value.int z :: [.ref 1000005]) ?_; decide +kernel) | (refine congrArg (fun z => Value.long z :: [.ref 1000005]) ?_; decide +kernel)) ?_
  refine a_callT (As := [.int 17]) (st := []) (i := 1) (bc := 0) (bs := 0) (mc := 0) (ms := 0) dX11_wordNext_27 mw_J0_charAt_5068e rfl ml_X11_194 im_J0_charAt_5068e se_J0_charAt_5068e (by decide) rfl (Nat.le_of_ble_eq_true rfl) (k_charAt1 (fr := fr + 5) (j := 17) (by unfold vp_in; decide +kernel)) (fun v M1 hq => ?_)
  obtain ⟨rfl, hM1⟩ := hq
  rw [hM1]
  clear hM1 M1
  refine a_st (st2 := [.int 111]) (by first | decide +kernel | (refine congrArg (fun z => Value.int z :: []) ?_; decide +kernel) | (refine congrArg (fun z => Value.long z :: []) ?_; decide +kernel)) ?_
  refine a_bipush (v := 32) dX11_wordNext_30 (by decide) ?_
  refine a_icmp_eq 41 dX11_wordNext_32 (by decide) (fun c => absurd c (by decide)) (fun _ => ?_)
  refine a_iinc (v := 2) dX11_wordNext_35 rfl (by decide) (Nat.le_of_ble_eq_true rfl) (lv2 := [(4, .int 2), (2, .int 8), (3, .int 16), (6, .int 0), (5, .int 0), (1, .int 0), (0, .ref 89)]) rfl ?_
  refine a_goto 21 dX11_wordNext_38 (by decide) ?_
  refine a_ldcB dX11_wordNext_21 rfl ?_
  refine a_iload_n dX11_wordNext_23 rfl rfl ?_
  refine a_iload dX11_wordNext_24 rfl ?_
  refine a_iadd dX11_wordNext_26 ?_
  refine a_st (st2 := [.int 18, .ref 1000005]) (by first | decide +kernel | (refine congrArg (fun z => Value.int z :: [.ref 1000005]) ?_; decide +kernel) | (refine congrArg (fun z => Value.long z :: [.ref 1000005]) ?_; decide +kernel)) ?_
  refine a_callT (As := [.int 18]) (st := []) (i := 1) (bc := 0) (bs := 0) (mc := 0) (ms := 0) dX11_wordNext_27 mw_J0_charAt_5068e rfl ml_X11_194 im_J0_charAt_5068e se_J0_charAt_5068e (by decide) rfl (Nat.le_of_ble_eq_true rfl) (k_charAt1 (fr := fr + 5) (j := 18) (by unfold vp_in; decide +kernel)) (fun v M1 hq => ?_)
  obtain ⟨rfl, hM1⟩ := hq
  rw [hM1]
  clear hM1 M1
  refine a_st (st2 := [.int 32]) (by first | decide +kernel | (refine congrArg (fun z => Value.int z :: []) ?_; decide +kernel) | (refine congrArg (fun z => Value.long z :: []) ?_; decide +kernel)) ?_
  refine a_bipush (v := 32) dX11_wordNext_30 (by decide) ?_
  refine a_icmp_eq 41 dX11_wordNext_32 (by decide) (fun _ => ?_) (fun c => absurd (by decide) c)
  refine a_iload dX11_wordNext_41 rfl ?_
  refine a_iload_n dX11_wordNext_43 rfl rfl ?_
  refine a_icmp_ne 51 dX11_wordNext_44 (by decide) (fun _ => ?_) (fun c => absurd c (by decide))
  refine a_iconst (v := 0) dX11_wordNext_51 (by decide) ?_
  refine a_istore dX11_wordNext_52 (Nat.le_of_ble_eq_true rfl) (lv2 := [(5, .int 0), (4, .int 2), (2, .int 8), (3, .int 16), (6, .int 0), (1, .int 0), (0, .ref 89)]) rfl ?_
  refine a_iconst (v := 0) dX11_wordNext_54 (by decide) ?_
  refine a_istore dX11_wordNext_55 (Nat.le_of_ble_eq_true rfl) (lv2 := [(6, .int 0), (5, .int 0), (4, .int 2), (2, .int 8), (3, .int 16), (1, .int 0), (0, .ref 89)]) rfl ?_
  refine a_iload dX11_wordNext_57 rfl ?_
  refine a_iload dX11_wordNext_59 rfl ?_
  refine a_icmp_ge 106 dX11_wordNext_61 (by decide) (fun c => absurd c (by decide)) (fun _ => ?_)
  refine a_iload dX11_wordNext_64 rfl ?_
  refine a_if_eq 106 dX11_wordNext_66 (by decide) (fun _ => ?_) (fun c => absurd (by decide) c)
  refine a_iload dX11_wordNext_106 rfl ?_
  refine a_if_eq 113 dX11_wordNext_108 (by decide) (fun _ => ?_) (fun c => absurd (by decide) c)
  refine a_iload_n dX11_wordNext_113 rfl rfl ?_
  refine a_iload dX11_wordNext_114 rfl ?_
  refine a_iconst (v := 1) dX11_wordNext_116 (by decide) ?_
  refine a_iadd dX11_wordNext_117 ?_
  refine a_st (st2 := [.int 3, .int 16]) (by first | decide +kernel | (refine congrArg (fun z => Value.int z :: [.int 16]) ?_; decide +kernel) | (refine congrArg (fun z => Value.long z :: [.int 16]) ?_; decide +kernel)) ?_
  refine a_iadd dX11_wordNext_118 ?_
  refine a_st (st2 := [.int 19]) (by first | decide +kernel | (refine congrArg (fun z => Value.int z :: []) ?_; decide +kernel) | (refine congrArg (fun z => Value.long z :: []) ?_; decide +kernel)) ?_
  refine a_istore_n dX11_wordNext_119 rfl (Nat.le_of_ble_eq_true rfl) (lv2 := [(3, .int 19), (6, .int 0), (5, .int 0), (4, .int 2), (2, .int 8), (1, .int 0), (0, .ref 89)]) rfl ?_
  refine a_iinc (v := 9) dX11_wordNext_120 rfl (by decide) (Nat.le_of_ble_eq_true rfl) (lv2 := [(2, .int 9), (3, .int 19), (6, .int 0), (5, .int 0), (4, .int 2), (1, .int 0), (0, .ref 89)]) rfl ?_
  refine a_goto 9 dX11_wordNext_123 (by decide) ?_
  refine a_iload_n dX11_wordNext_9 rfl rfl ?_
  refine a_ldcB dX11_wordNext_10 rfl ?_
  refine a_callT (As := []) (st := [.int 19]) (i := 1) (bc := 0) (bs := 0) (mc := 0) (ms := 0) dX11_wordNext_12 mw_J0_length_8abf5 rfl ml_X11_189 im_J0_length_8abf5 se_J0_length_8abf5 (by decide) rfl (Nat.le_of_ble_eq_true rfl) (k_tlen1 (fr := fr + 7)) (fun v M1 hq => ?_)
  obtain ⟨rfl, hM1⟩ := hq
  rw [hM1]
  clear hM1 M1
  show AW X _ 0 0 15 _ [.int 74, .int 19] _ _
  refine a_icmp_ge 126 dX11_wordNext_15 (by decide) (fun c => absurd c (by decide)) (fun _ => ?_)
  refine a_iconst (v := 0) dX11_wordNext_18 (by decide) ?_
  refine a_istore dX11_wordNext_19 (Nat.le_of_ble_eq_true rfl) (lv2 := [(4, .int 0), (2, .int 9), (3, .int 19), (6, .int 0), (5, .int 0), (1, .int 0), (0, .ref 89)]) rfl ?_
  refine a_ldcB dX11_wordNext_21 rfl ?_
  refine a_iload_n dX11_wordNext_23 rfl rfl ?_
  refine a_iload dX11_wordNext_24 rfl ?_
  refine a_iadd dX11_wordNext_26 ?_
  refine a_st (st2 := [.int 19, .ref 1000005]) (by first | decide +kernel | (refine congrArg (fun z => Value.int z :: [.ref 1000005]) ?_; decide +kernel) | (refine congrArg (fun z => Value.long z :: [.ref 1000005]) ?_; decide +kernel)) ?_
  refine a_callT (As := [.int 19]) (st := []) (i := 1) (bc := 0) (bs := 0) (mc := 0) (ms := 0) dX11_wordNext_27 mw_J0_charAt_5068e rfl ml_X11_194 im_J0_charAt_5068e se_J0_charAt_5068e (by decide) rfl (Nat.le_of_ble_eq_true rfl) (k_charAt1 (fr := fr + 5) (j := 19) (by unfold vp_in; decide +kernel)) (fun v M1 hq => ?_)
  obtain ⟨rfl, hM1⟩ := hq
  rw [hM1]
  clear hM1 M1
  refine a_st (st2 := [.int 105]) (by first | decide +kernel | (refine congrArg (fun z => Value.int z :: []) ?_; decide +kernel) | (refine congrArg (fun z => Value.long z :: []) ?_; decide +kernel)) ?_
  refine a_bipush (v := 32) dX11_wordNext_30 (by decide) ?_
  refine a_icmp_eq 41 dX11_wordNext_32 (by decide) (fun c => absurd c (by decide)) (fun _ => ?_)
  refine a_iinc (v := 1) dX11_wordNext_35 rfl (by decide) (Nat.le_of_ble_eq_true rfl) (lv2 := [(4, .int 1), (2, .int 9), (3, .int 19), (6, .int 0), (5, .int 0), (1, .int 0), (0, .ref 89)]) rfl ?_
  refine a_goto 21 dX11_wordNext_38 (by decide) ?_
  refine a_ldcB dX11_wordNext_21 rfl ?_
  refine a_iload_n dX11_wordNext_23 rfl rfl ?_
  refine a_iload dX11_wordNext_24 rfl ?_
  refine a_iadd dX11_wordNext_26 ?_
  refine a_st (st2 := [.int 20, .ref 1000005]) (by first | decide +kernel | (refine congrArg (fun z => Value.int z :: [.ref 1000005]) ?_; decide +kernel) | (refine congrArg (fun z => Value.long z :: [.ref 1000005]) ?_; decide +kernel)) ?_
  refine a_callT (As := [.int 20]) (st := []) (i := 1) (bc := 0) (bs := 0) (mc := 0) (ms := 0) dX11_wordNext_27 mw_J0_charAt_5068e rfl ml_X11_194 im_J0_charAt_5068e se_J0_charAt_5068e (by decide) rfl (Nat.le_of_ble_eq_true rfl) (k_charAt1 (fr := fr + 5) (j := 20) (by unfold vp_in; decide +kernel)) (fun v M1 hq => ?_)
  obtain ⟨rfl, hM1⟩ := hq
  rw [hM1]
  clear hM1 M1
  refine a_st (st2 := [.int 109]) (by first | decide +kernel | (refine congrArg (fun z => Value.int z :: []) ?_; decide +kernel) | (refine congrArg (fun z => Value.long z :: []) ?_; decide +kernel)) ?_
  refine a_bipush (v := 32) dX11_wordNext_30 (by decide) ?_
  refine a_icmp_eq 41 dX11_wordNext_32 (by decide) (fun c => absurd c (by decide)) (fun _ => ?_)
  refine a_iinc (v := 2) dX11_wordNext_35 rfl (by decide) (Nat.le_of_ble_eq_true rfl) (lv2 := [(4, .int 2), (2, .int 9), (3, .int 19), (6, .int 0), (5, .int 0), (1, .int 0), (0, .ref 89)]) rfl ?_
  refine a_goto 21 dX11_wordNext_38 (by decide) ?_
  refine a_ldcB dX11_wordNext_21 rfl ?_
  refine a_iload_n dX11_wordNext_23 rfl rfl ?_
  refine a_iload dX11_wordNext_24 rfl ?_
  refine a_iadd dX11_wordNext_26 ?_
  refine a_st (st2 := [.int 21, .ref 1000005]) (by first | decide +kernel | (refine congrArg (fun z => Value.int z :: [.ref 1000005]) ?_; decide +kernel) | (refine congrArg (fun z => Value.long z :: [.ref 1000005]) ?_; decide +kernel)) ?_
  refine a_callT (As := [.int 21]) (st := []) (i := 1) (bc := 0) (bs := 0) (mc := 0) (ms := 0) dX11_wordNext_27 mw_J0_charAt_5068e rfl ml_X11_194 im_J0_charAt_5068e se_J0_charAt_5068e (by decide) rfl (Nat.le_of_ble_eq_true rfl) (k_charAt1 (fr := fr + 5) (j := 21) (by unfold vp_in; decide +kernel)) (fun v M1 hq => ?_)
  obtain ⟨rfl, hM1⟩ := hq
  rw [hM1]
  clear hM1 M1
  refine a_st (st2 := [.int 112]) (by first | decide +kernel | (refine congrArg (fun z => Value.int z :: []) ?_; decide +kernel) | (refine congrArg (fun z => Value.long z :: []) ?_; decide +kernel)) ?_
  refine a_bipush (v := 32) dX11_wordNext_30 (by decide) ?_
  refine a_icmp_eq 41 dX11_wordNext_32 (by decide) (fun c => absurd c (by decide)) (fun _ => ?_)
  refine a_iinc (v := 3) dX11_wordNext_35 rfl (by decide) (Nat.le_of_ble_eq_true rfl) (lv2 := [(4, .int 3), (2, .int 9), (3, .int 19), (6, .int 0), (5, .int 0), (1, .int 0), (0, .ref 89)]) rfl ?_
  refine a_goto 21 dX11_wordNext_38 (by decide) ?_
  refine a_ldcB dX11_wordNext_21 rfl ?_
  refine a_iload_n dX11_wordNext_23 rfl rfl ?_
  refine a_iload dX11_wordNext_24 rfl ?_
  refine a_iadd dX11_wordNext_26 ?_
  refine a_st (st2 := [.int 22, .ref 1000005]) (by first | decide +kernel | (refine congrArg (fun z => Value.int z :: [.ref 1000005]) ?_; decide +kernel) | (refine congrArg (fun z => Value.long z :: [.ref 1000005]) ?_; decide +kernel)) ?_
  refine a_callT (As := [.int 22]) (st := []) (i := 1) (bc := 0) (bs := 0) (mc := 0) (ms := 0) dX11_wordNext_27 mw_J0_charAt_5068e rfl ml_X11_194 im_J0_charAt_5068e se_J0_charAt_5068e (by decide) rfl (Nat.le_of_ble_eq_true rfl) (k_charAt1 (fr := fr + 5) (j := 22) (by unfold vp_in; decide +kernel)) (fun v M1 hq => ?_)
  obtain ⟨rfl, hM1⟩ := hq
  rw [hM1]
  clear hM1 M1
  refine a_st (st2 := [.int 32]) (by first | decide +kernel | (refine congrArg (fun z => Value.int z :: []) ?_; decide +kernel) | (refine congrArg (fun z => Value.long z :: []) ?_; decide +kernel)) ?_
  refine a_bipush (v := 32) dX11_wordNext_30 (by decide) ?_
  refine a_icmp_eq 41 dX11_wordNext_32 (by decide) (fun _ => ?_) (fun c => absurd (by decide) c)
  refine a_iload dX11_wordNext_41 rfl ?_
  refine a_iload_n dX11_wordNext_43 rfl rfl ?_
  refine a_icmp_ne 51 dX11_wordNext_44 (by decide) (fun _ => ?_) (fun c => absurd c (by decide))
  refine a_iconst (v := 0) dX11_wordNext_51 (by decide) ?_
  refine a_istore dX11_wordNext_52 (Nat.le_of_ble_eq_true rfl) (lv2 := [(5, .int 0), (4, .int 3), (2, .int 9), (3, .int 19), (6, .int 0), (1, .int 0), (0, .ref 89)]) rfl ?_
  refine a_iconst (v := 0) dX11_wordNext_54 (by decide) ?_
  refine a_istore dX11_wordNext_55 (Nat.le_of_ble_eq_true rfl) (lv2 := [(6, .int 0), (5, .int 0), (4, .int 3), (2, .int 9), (3, .int 19), (1, .int 0), (0, .ref 89)]) rfl ?_
  refine a_iload dX11_wordNext_57 rfl ?_
  refine a_iload dX11_wordNext_59 rfl ?_
  refine a_icmp_ge 106 dX11_wordNext_61 (by decide) (fun c => absurd c (by decide)) (fun _ => ?_)
  refine a_iload dX11_wordNext_64 rfl ?_
  refine a_if_eq 106 dX11_wordNext_66 (by decide) (fun _ => ?_) (fun c => absurd (by decide) c)
  refine a_iload dX11_wordNext_106 rfl ?_
  refine a_if_eq 113 dX11_wordNext_108 (by decide) (fun _ => ?_) (fun c => absurd (by decide) c)
  refine a_iload_n dX11_wordNext_113 rfl rfl ?_
  refine a_iload dX11_wordNext_114 rfl ?_
  refine a_iconst (v := 1) dX11_wordNext_116 (by decide) ?_
  refine a_iadd dX11_wordNext_117 ?_
  refine a_st (st2 := [.int 4, .int 19]) (by first | decide +kernel | (refine congrArg (fun z => Value.int z :: [.int 19]) ?_; decide +kernel) | (refine congrArg (fun z => Value.long z :: [.int 19]) ?_; decide +kernel)) ?_
  refine a_iadd dX11_wordNext_118 ?_
  refine a_st (st2 := [.int 23]) (by first | decide +kernel | (refine congrArg (fun z => Value.int z :: []) ?_; decide +kernel) | (refine congrArg (fun z => Value.long z :: []) ?_; decide +kernel)) ?_
  refine a_istore_n dX11_wordNext_119 rfl (Nat.le_of_ble_eq_true rfl) (lv2 := [(3, .int 23), (6, .int 0), (5, .int 0), (4, .int 3), (2, .int 9), (1, .int 0), (0, .ref 89)]) rfl ?_
  refine a_iinc (v := 10) dX11_wordNext_120 rfl (by decide) (Nat.le_of_ble_eq_true rfl) (lv2 := [(2, .int 10), (3, .int 23), (6, .int 0), (5, .int 0), (4, .int 3), (1, .int 0), (0, .ref 89)]) rfl ?_
  refine a_goto 9 dX11_wordNext_123 (by decide) ?_
  refine a_iload_n dX11_wordNext_9 rfl rfl ?_
  refine a_ldcB dX11_wordNext_10 rfl ?_
  refine a_callT (As := []) (st := [.int 23]) (i := 1) (bc := 0) (bs := 0) (mc := 0) (ms := 0) dX11_wordNext_12 mw_J0_length_8abf5 rfl ml_X11_189 im_J0_length_8abf5 se_J0_length_8abf5 (by decide) rfl (Nat.le_of_ble_eq_true rfl) (k_tlen1 (fr := fr + 7)) (fun v M1 hq => ?_)
  obtain ⟨rfl, hM1⟩ := hq
  rw [hM1]
  clear hM1 M1
  show AW X _ 0 0 15 _ [.int 74, .int 23] _ _
  refine a_icmp_ge 126 dX11_wordNext_15 (by decide) (fun c => absurd c (by decide)) (fun _ => ?_)
  refine a_iconst (v := 0) dX11_wordNext_18 (by decide) ?_
  refine a_istore dX11_wordNext_19 (Nat.le_of_ble_eq_true rfl) (lv2 := [(4, .int 0), (2, .int 10), (3, .int 23), (6, .int 0), (5, .int 0), (1, .int 0), (0, .ref 89)]) rfl ?_
  refine a_ldcB dX11_wordNext_21 rfl ?_
  refine a_iload_n dX11_wordNext_23 rfl rfl ?_
  refine a_iload dX11_wordNext_24 rfl ?_
  refine a_iadd dX11_wordNext_26 ?_
  refine a_st (st2 := [.int 23, .ref 1000005]) (by first | decide +kernel | (refine congrArg (fun z => Value.int z :: [.ref 1000005]) ?_; decide +kernel) | (refine congrArg (fun z => Value.long z :: [.ref 1000005]) ?_; decide +kernel)) ?_
  refine a_callT (As := [.int 23]) (st := []) (i := 1) (bc := 0) (bs := 0) (mc := 0) (ms := 0) dX11_wordNext_27 mw_J0_charAt_5068e rfl ml_X11_194 im_J0_charAt_5068e se_J0_charAt_5068e (by decide) rfl (Nat.le_of_ble_eq_true rfl) (k_charAt1 (fr := fr + 5) (j := 23) (by unfold vp_in; decide +kernel)) (fun v M1 hq => ?_)
  obtain ⟨rfl, hM1⟩ := hq
  rw [hM1]
  clear hM1 M1
  refine a_st (st2 := [.int 97]) (by first | decide +kernel | (refine congrArg (fun z => Value.int z :: []) ?_; decide +kernel) | (refine congrArg (fun z => Value.long z :: []) ?_; decide +kernel)) ?_
  refine a_bipush (v := 32) dX11_wordNext_30 (by decide) ?_
  refine a_icmp_eq 41 dX11_wordNext_32 (by decide) (fun c => absurd c (by decide)) (fun _ => ?_)
  refine a_iinc (v := 1) dX11_wordNext_35 rfl (by decide) (Nat.le_of_ble_eq_true rfl) (lv2 := [(4, .int 1), (2, .int 10), (3, .int 23), (6, .int 0), (5, .int 0), (1, .int 0), (0, .ref 89)]) rfl ?_
  refine a_goto 21 dX11_wordNext_38 (by decide) ?_
  refine a_ldcB dX11_wordNext_21 rfl ?_
  refine a_iload_n dX11_wordNext_23 rfl rfl ?_
  refine a_iload dX11_wordNext_24 rfl ?_
  refine a_iadd dX11_wordNext_26 ?_
  refine a_st (st2 := [.int 24, .ref 1000005]) (by first | decide +kernel | (refine congrArg (fun z => Value.int z :: [.ref 1000005]) ?_; decide +kernel) | (refine congrArg (fun z => Value.long z :: [.ref 1000005]) ?_; decide +kernel)) ?_
  refine a_callT (As := [.int 24]) (st := []) (i := 1) (bc := 0) (bs := 0) (mc := 0) (ms := 0) dX11_wordNext_27 mw_J0_charAt_5068e rfl ml_X11_194 im_J0_charAt_5068e se_J0_charAt_5068e (by decide) rfl (Nat.le_of_ble_eq_true rfl) (k_charAt1 (fr := fr + 5) (j := 24) (by unfold vp_in; decide +kernel)) (fun v M1 hq => ?_)
  obtain ⟨rfl, hM1⟩ := hq
  rw [hM1]
  clear hM1 M1
  refine a_st (st2 := [.int 110]) (by first | decide +kernel | (refine congrArg (fun z => Value.int z :: []) ?_; decide +kernel) | (refine congrArg (fun z => Value.long z :: []) ?_; decide +kernel)) ?_
  refine a_bipush (v := 32) dX11_wordNext_30 (by decide) ?_
  refine a_icmp_eq 41 dX11_wordNext_32 (by decide) (fun c => absurd c (by decide)) (fun _ => ?_)
  refine a_iinc (v := 2) dX11_wordNext_35 rfl (by decide) (Nat.le_of_ble_eq_true rfl) (lv2 := [(4, .int 2), (2, .int 10), (3, .int 23), (6, .int 0), (5, .int 0), (1, .int 0), (0, .ref 89)]) rfl ?_
  refine a_goto 21 dX11_wordNext_38 (by decide) ?_
  refine a_ldcB dX11_wordNext_21 rfl ?_
  refine a_iload_n dX11_wordNext_23 rfl rfl ?_
  refine a_iload dX11_wordNext_24 rfl ?_
  refine a_iadd dX11_wordNext_26 ?_
  refine a_st (st2 := [.int 25, .ref 1000005]) (by first | decide +kernel | (refine congrArg (fun z => Value.int z :: [.ref 1000005]) ?_; decide +kernel) | (refine congrArg (fun z => Value.long z :: [.ref 1000005]) ?_; decide +kernel)) ?_
  refine a_callT (As := [.int 25]) (st := []) (i := 1) (bc := 0) (bs := 0) (mc := 0) (ms := 0) dX11_wordNext_27 mw_J0_charAt_5068e rfl ml_X11_194 im_J0_charAt_5068e se_J0_charAt_5068e (by decide) rfl (Nat.le_of_ble_eq_true rfl) (k_charAt1 (fr := fr + 5) (j := 25) (by unfold vp_in; decide +kernel)) (fun v M1 hq => ?_)
  obtain ⟨rfl, hM1⟩ := hq
  rw [hM1]
  clear hM1 M1
  refine a_st (st2 := [.int 100]) (by first | decide +kernel | (refine congrArg (fun z => Value.int z :: []) ?_; decide +kernel) | (refine congrArg (fun z => Value.long z :: []) ?_; decide +kernel)) ?_
  refine a_bipush (v := 32) dX11_wordNext_30 (by decide) ?_
  refine a_icmp_eq 41 dX11_wordNext_32 (by decide) (fun c => absurd c (by decide)) (fun _ => ?_)
  refine a_iinc (v := 3) dX11_wordNext_35 rfl (by decide) (Nat.le_of_ble_eq_true rfl) (lv2 := [(4, .int 3), (2, .int 10), (3, .int 23), (6, .int 0), (5, .int 0), (1, .int 0), (0, .ref 89)]) rfl ?_
  refine a_goto 21 dX11_wordNext_38 (by decide) ?_
  refine a_ldcB dX11_wordNext_21 rfl ?_
  refine a_iload_n dX11_wordNext_23 rfl rfl ?_
  refine a_iload dX11_wordNext_24 rfl ?_
  refine a_iadd dX11_wordNext_26 ?_
  refine a_st (st2 := [.int 26, .ref 1000005]) (by first | decide +kernel | (refine congrArg (fun z => Value.int z :: [.ref 1000005]) ?_; decide +kernel) | (refine congrArg (fun z => Value.long z :: [.ref 1000005]) ?_; decide +kernel)) ?_
  refine a_callT (As := [.int 26]) (st := []) (i := 1) (bc := 0) (bs := 0) (mc := 0) (ms := 0) dX11_wordNext_27 mw_J0_charAt_5068e rfl ml_X11_194 im_J0_charAt_5068e se_J0_charAt_5068e (by decide) rfl (Nat.le_of_ble_eq_true rfl) (k_charAt1 (fr := fr + 5) (j := 26) (by unfold vp_in; decide +kernel)) (fun v M1 hq => ?_)
  obtain ⟨rfl, hM1⟩ := hq
  rw [hM1]
  clear hM1 M1
  refine a_st (st2 := [.int 32]) (by first | decide +kernel | (refine congrArg (fun z => Value.int z :: []) ?_; decide +kernel) | (refine congrArg (fun z => Value.long z :: []) ?_; decide +kernel)) ?_
  refine a_bipush (v := 32) dX11_wordNext_30 (by decide) ?_
  refine a_icmp_eq 41 dX11_wordNext_32 (by decide) (fun _ => ?_) (fun c => absurd (by decide) c)
  refine a_iload dX11_wordNext_41 rfl ?_
  refine a_iload_n dX11_wordNext_43 rfl rfl ?_
  refine a_icmp_ne 51 dX11_wordNext_44 (by decide) (fun _ => ?_) (fun c => absurd c (by decide))
  refine a_iconst (v := 0) dX11_wordNext_51 (by decide) ?_
  refine a_istore dX11_wordNext_52 (Nat.le_of_ble_eq_true rfl) (lv2 := [(5, .int 0), (4, .int 3), (2, .int 10), (3, .int 23), (6, .int 0), (1, .int 0), (0, .ref 89)]) rfl ?_
  refine a_iconst (v := 0) dX11_wordNext_54 (by decide) ?_
  refine a_istore dX11_wordNext_55 (Nat.le_of_ble_eq_true rfl) (lv2 := [(6, .int 0), (5, .int 0), (4, .int 3), (2, .int 10), (3, .int 23), (1, .int 0), (0, .ref 89)]) rfl ?_
  refine a_iload dX11_wordNext_57 rfl ?_
  refine a_iload dX11_wordNext_59 rfl ?_
  refine a_icmp_ge 106 dX11_wordNext_61 (by decide) (fun c => absurd c (by decide)) (fun _ => ?_)
  refine a_iload dX11_wordNext_64 rfl ?_
  refine a_if_eq 106 dX11_wordNext_66 (by decide) (fun _ => ?_) (fun c => absurd (by decide) c)
  refine a_iload dX11_wordNext_106 rfl ?_
  refine a_if_eq 113 dX11_wordNext_108 (by decide) (fun _ => ?_) (fun c => absurd (by decide) c)
  refine a_iload_n dX11_wordNext_113 rfl rfl ?_
  refine a_iload dX11_wordNext_114 rfl ?_
  refine a_iconst (v := 1) dX11_wordNext_116 (by decide) ?_
  refine a_iadd dX11_wordNext_117 ?_
  refine a_st (st2 := [.int 4, .int 23]) (by first | decide +kernel | (refine congrArg (fun z => Value.int z :: [.int 23]) ?_; decide +kernel) | (refine congrArg (fun z => Value.long z :: [.int 23]) ?_; decide +kernel)) ?_
  refine a_iadd dX11_wordNext_118 ?_
  refine a_st (st2 := [.int 27]) (by first | decide +kernel | (refine congrArg (fun z => Value.int z :: []) ?_; decide +kernel) | (refine congrArg (fun z => Value.long z :: []) ?_; decide +kernel)) ?_
  refine a_istore_n dX11_wordNext_119 rfl (Nat.le_of_ble_eq_true rfl) (lv2 := [(3, .int 27), (6, .int 0), (5, .int 0), (4, .int 3), (2, .int 10), (1, .int 0), (0, .ref 89)]) rfl ?_
  refine a_iinc (v := 11) dX11_wordNext_120 rfl (by decide) (Nat.le_of_ble_eq_true rfl) (lv2 := [(2, .int 11), (3, .int 27), (6, .int 0), (5, .int 0), (4, .int 3), (1, .int 0), (0, .ref 89)]) rfl ?_
  refine a_goto 9 dX11_wordNext_123 (by decide) ?_
  refine a_iload_n dX11_wordNext_9 rfl rfl ?_
  refine a_ldcB dX11_wordNext_10 rfl ?_
  refine a_callT (As := []) (st := [.int 27]) (i := 1) (bc := 0) (bs := 0) (mc := 0) (ms := 0) dX11_wordNext_12 mw_J0_length_8abf5 rfl ml_X11_189 im_J0_length_8abf5 se_J0_length_8abf5 (by decide) rfl (Nat.le_of_ble_eq_true rfl) (k_tlen1 (fr := fr + 7)) (fun v M1 hq => ?_)
  obtain ⟨rfl, hM1⟩ := hq
  rw [hM1]
  clear hM1 M1
  show AW X _ 0 0 15 _ [.int 74, .int 27] _ _
  refine a_icmp_ge 126 dX11_wordNext_15 (by decide) (fun c => absurd c (by decide)) (fun _ => ?_)
  refine a_iconst (v := 0) dX11_wordNext_18 (by decide) ?_
  refine a_istore dX11_wordNext_19 (Nat.le_of_ble_eq_true rfl) (lv2 := [(4, .int 0), (2, .int 11), (3, .int 27), (6, .int 0), (5, .int 0), (1, .int 0), (0, .ref 89)]) rfl ?_
  refine a_ldcB dX11_wordNext_21 rfl ?_
  refine a_iload_n dX11_wordNext_23 rfl rfl ?_
  refine a_iload dX11_wordNext_24 rfl ?_
  refine a_iadd dX11_wordNext_26 ?_
  refine a_st (st2 := [.int 27, .ref 1000005]) (by first | decide +kernel | (refine congrArg (fun z => Value.int z :: [.ref 1000005]) ?_; decide +kernel) | (refine congrArg (fun z => Value.long z :: [.ref 1000005]) ?_; decide +kernel)) ?_
  refine a_callT (As := [.int 27]) (st := []) (i := 1) (bc := 0) (bs := 0) (mc := 0) (ms := 0) dX11_wordNext_27 mw_J0_charAt_5068e rfl ml_X11_194 im_J0_charAt_5068e se_J0_charAt_5068e (by decide) rfl (Nat.le_of_ble_eq_true rfl) (k_charAt1 (fr := fr + 5) (j := 27) (by unfold vp_in; decide +kernel)) (fun v M1 hq => ?_)
  obtain ⟨rfl, hM1⟩ := hq
  rw [hM1]
  clear hM1 M1
  refine a_st (st2 := [.int 111]) (by first | decide +kernel | (refine congrArg (fun z => Value.int z :: []) ?_; decide +kernel) | (refine congrArg (fun z => Value.long z :: []) ?_; decide +kernel)) ?_
  refine a_bipush (v := 32) dX11_wordNext_30 (by decide) ?_
  refine a_icmp_eq 41 dX11_wordNext_32 (by decide) (fun c => absurd c (by decide)) (fun _ => ?_)
  refine a_iinc (v := 1) dX11_wordNext_35 rfl (by decide) (Nat.le_of_ble_eq_true rfl) (lv2 := [(4, .int 1), (2, .int 11), (3, .int 27), (6, .int 0), (5, .int 0), (1, .int 0), (0, .ref 89)]) rfl ?_
  refine a_goto 21 dX11_wordNext_38 (by decide) ?_
  refine a_ldcB dX11_wordNext_21 rfl ?_
  refine a_iload_n dX11_wordNext_23 rfl rfl ?_
  refine a_iload dX11_wordNext_24 rfl ?_
  refine a_iadd dX11_wordNext_26 ?_
  refine a_st (st2 := [.int 28, .ref 1000005]) (by first | decide +kernel | (refine congrArg (fun z => Value.int z :: [.ref 1000005]) ?_; decide +kernel) | (refine congrArg (fun z => Value.long z :: [.ref 1000005]) ?_; decide +kernel)) ?_
  refine a_callT (As := [.int 28]) (st := []) (i := 1) (bc := 0) (bs := 0) (mc := 0) (ms := 0) dX11_wordNext_27 mw_J0_charAt_5068e rfl ml_X11_194 im_J0_charAt_5068e se_J0_charAt_5068e (by decide) rfl (Nat.le_of_ble_eq_true rfl) (k_charAt1 (fr := fr + 5) (j := 28) (by unfold vp_in; decide +kernel)) (fun v M1 hq => ?_)
  obtain ⟨rfl, hM1⟩ := hq
  rw [hM1]
  clear hM1 M1
  refine a_st (st2 := [.int 114]) (by first | decide +kernel | (refine congrArg (fun z => Value.int z :: []) ?_; decide +kernel) | (refine congrArg (fun z => Value.long z :: []) ?_; decide +kernel)) ?_
  refine a_bipush (v := 32) dX11_wordNext_30 (by decide) ?_
  refine a_icmp_eq 41 dX11_wordNext_32 (by decide) (fun c => absurd c (by decide)) (fun _ => ?_)
  refine a_iinc (v := 2) dX11_wordNext_35 rfl (by decide) (Nat.le_of_ble_eq_true rfl) (lv2 := [(4, .int 2), (2, .int 11), (3, .int 27), (6, .int 0), (5, .int 0), (1, .int 0), (0, .ref 89)]) rfl ?_
  refine a_goto 21 dX11_wordNext_38 (by decide) ?_
  refine a_ldcB dX11_wordNext_21 rfl ?_
  refine a_iload_n dX11_wordNext_23 rfl rfl ?_
  refine a_iload dX11_wordNext_24 rfl ?_
  refine a_iadd dX11_wordNext_26 ?_
  refine a_st (st2 := [.int 29, .ref 1000005]) (by first | decide +kernel | (refine congrArg (fun z => Value.int z :: [.ref 1000005]) ?_; decide +kernel) | (refine congrArg (fun z => Value.long z :: [.ref 1000005]) ?_; decide +kernel)) ?_
  refine a_callT (As := [.int 29]) (st := []) (i := 1) (bc := 0) (bs := 0) (mc := 0) (ms := 0) dX11_wordNext_27 mw_J0_charAt_5068e rfl ml_X11_194 im_J0_charAt_5068e se_J0_charAt_5068e (by decide) rfl (Nat.le_of_ble_eq_true rfl) (k_charAt1 (fr := fr + 5) (j := 29) (by unfold vp_in; decide +kernel)) (fun v M1 hq => ?_)
  obtain ⟨rfl, hM1⟩ := hq
  rw [hM1]
  clear hM1 M1
  refine a_st (st2 := [.int 32]) (by first | decide +kernel | (refine congrArg (fun z => Value.int z :: []) ?_; decide +kernel) | (refine congrArg (fun z => Value.long z :: []) ?_; decide +kernel)) ?_
  refine a_bipush (v := 32) dX11_wordNext_30 (by decide) ?_
  refine a_icmp_eq 41 dX11_wordNext_32 (by decide) (fun _ => ?_) (fun c => absurd (by decide) c)
  refine a_iload dX11_wordNext_41 rfl ?_
  refine a_iload_n dX11_wordNext_43 rfl rfl ?_
  refine a_icmp_ne 51 dX11_wordNext_44 (by decide) (fun _ => ?_) (fun c => absurd c (by decide))
  refine a_iconst (v := 0) dX11_wordNext_51 (by decide) ?_
  refine a_istore dX11_wordNext_52 (Nat.le_of_ble_eq_true rfl) (lv2 := [(5, .int 0), (4, .int 2), (2, .int 11), (3, .int 27), (6, .int 0), (1, .int 0), (0, .ref 89)]) rfl ?_
  refine a_iconst (v := 0) dX11_wordNext_54 (by decide) ?_
  refine a_istore dX11_wordNext_55 (Nat.le_of_ble_eq_true rfl) (lv2 := [(6, .int 0), (5, .int 0), (4, .int 2), (2, .int 11), (3, .int 27), (1, .int 0), (0, .ref 89)]) rfl ?_
  refine a_iload dX11_wordNext_57 rfl ?_
  refine a_iload dX11_wordNext_59 rfl ?_
  refine a_icmp_ge 106 dX11_wordNext_61 (by decide) (fun c => absurd c (by decide)) (fun _ => ?_)
  refine a_iload dX11_wordNext_64 rfl ?_
  refine a_if_eq 106 dX11_wordNext_66 (by decide) (fun _ => ?_) (fun c => absurd (by decide) c)
  refine a_iload dX11_wordNext_106 rfl ?_
  refine a_if_eq 113 dX11_wordNext_108 (by decide) (fun _ => ?_) (fun c => absurd (by decide) c)
  refine a_iload_n dX11_wordNext_113 rfl rfl ?_
  refine a_iload dX11_wordNext_114 rfl ?_
  refine a_iconst (v := 1) dX11_wordNext_116 (by decide) ?_
  refine a_iadd dX11_wordNext_117 ?_
  refine a_st (st2 := [.int 3, .int 27]) (by first | decide +kernel | (refine congrArg (fun z => Value.int z :: [.int 27]) ?_; decide +kernel) | (refine congrArg (fun z => Value.long z :: [.int 27]) ?_; decide +kernel)) ?_
  refine a_iadd dX11_wordNext_118 ?_
  refine a_st (st2 := [.int 30]) (by first | decide +kernel | (refine congrArg (fun z => Value.int z :: []) ?_; decide +kernel) | (refine congrArg (fun z => Value.long z :: []) ?_; decide +kernel)) ?_
  refine a_istore_n dX11_wordNext_119 rfl (Nat.le_of_ble_eq_true rfl) (lv2 := [(3, .int 30), (6, .int 0), (5, .int 0), (4, .int 2), (2, .int 11), (1, .int 0), (0, .ref 89)]) rfl ?_
  refine a_iinc (v := 12) dX11_wordNext_120 rfl (by decide) (Nat.le_of_ble_eq_true rfl) (lv2 := [(2, .int 12), (3, .int 30), (6, .int 0), (5, .int 0), (4, .int 2), (1, .int 0), (0, .ref 89)]) rfl ?_
  refine a_goto 9 dX11_wordNext_123 (by decide) ?_
  refine a_iload_n dX11_wordNext_9 rfl rfl ?_
  refine a_ldcB dX11_wordNext_10 rfl ?_
  refine a_callT (As := []) (st := [.int 30]) (i := 1) (bc := 0) (bs := 0) (mc := 0) (ms := 0) dX11_wordNext_12 mw_J0_length_8abf5 rfl ml_X11_189 im_J0_length_8abf5 se_J0_length_8abf5 (by decide) rfl (Nat.le_of_ble_eq_true rfl) (k_tlen1 (fr := fr + 7)) (fun v M1 hq => ?_)
  obtain ⟨rfl, hM1⟩ := hq
  rw [hM1]
  clear hM1 M1
  show AW X _ 0 0 15 _ [.int 74, .int 30] _ _
  refine a_icmp_ge 126 dX11_wordNext_15 (by decide) (fun c => absurd c (by decide)) (fun _ => ?_)
  refine a_iconst (v := 0) dX11_wordNext_18 (by decide) ?_
  refine a_istore dX11_wordNext_19 (Nat.le_of_ble_eq_true rfl) (lv2 := [(4, .int 0), (2, .int 12), (3, .int 30), (6, .int 0), (5, .int 0), (1, .int 0), (0, .ref 89)]) rfl ?_
  refine a_ldcB dX11_wordNext_21 rfl ?_
  refine a_iload_n dX11_wordNext_23 rfl rfl ?_
  refine a_iload dX11_wordNext_24 rfl ?_
  refine a_iadd dX11_wordNext_26 ?_
  refine a_st (st2 := [.int 30, .ref 1000005]) (by first | decide +kernel | (refine congrArg (fun z => Value.int z :: [.ref 1000005]) ?_; decide +kernel) | (refine congrArg (fun z => Value.long z :: [.ref 1000005]) ?_; decide +kernel)) ?_
  refine a_callT (As := [.int 30]) (st := []) (i := 1) (bc := 0) (bs := 0) (mc := 0) (ms := 0) dX11_wordNext_27 mw_J0_charAt_5068e rfl ml_X11_194 im_J0_charAt_5068e se_J0_charAt_5068e (by decide) rfl (Nat.le_of_ble_eq_true rfl) (k_charAt1 (fr := fr + 5) (j := 30) (by unfold vp_in; decide +kernel)) (fun v M1 hq => ?_)
  obtain ⟨rfl, hM1⟩ := hq
  rw [hM1]
  clear hM1 M1
  refine a_st (st2 := [.int 110]) (by first | decide +kernel | (refine congrArg (fun z => Value.int z :: []) ?_; decide +kernel) | (refine congrArg (fun z => Value.long z :: []) ?_; decide +kernel)) ?_
  refine a_bipush (v := 32) dX11_wordNext_30 (by decide) ?_
  refine a_icmp_eq 41 dX11_wordNext_32 (by decide) (fun c => absurd c (by decide)) (fun _ => ?_)
  refine a_iinc (v := 1) dX11_wordNext_35 rfl (by decide) (Nat.le_of_ble_eq_true rfl) (lv2 := [(4, .int 1), (2, .int 12), (3, .int 30), (6, .int 0), (5, .int 0), (1, .int 0), (0, .ref 89)]) rfl ?_
  refine a_goto 21 dX11_wordNext_38 (by decide) ?_
  refine a_ldcB dX11_wordNext_21 rfl ?_
  refine a_iload_n dX11_wordNext_23 rfl rfl ?_
  refine a_iload dX11_wordNext_24 rfl ?_
  refine a_iadd dX11_wordNext_26 ?_
  refine a_st (st2 := [.int 31, .ref 1000005]) (by first | decide +kernel | (refine congrArg (fun z => Value.int z :: [.ref 1000005]) ?_; decide +kernel) | (refine congrArg (fun z => Value.long z :: [.ref 1000005]) ?_; decide +kernel)) ?_
  refine a_callT (As := [.int 31]) (st := []) (i := 1) (bc := 0) (bs := 0) (mc := 0) (ms := 0) dX11_wordNext_27 mw_J0_charAt_5068e rfl ml_X11_194 im_J0_charAt_5068e se_J0_charAt_5068e (by decide) rfl (Nat.le_of_ble_eq_true rfl) (k_charAt1 (fr := fr + 5) (j := 31) (by unfold vp_in; decide +kernel)) (fun v M1 hq => ?_)
  obtain ⟨rfl, hM1⟩ := hq
  rw [hM1]
  clear hM1 M1
  refine a_st (st2 := [.int 111]) (by first | decide +kernel | (refine congrArg (fun z => Value.int z :: []) ?_; decide +kernel) | (refine congrArg (fun z => Value.long z :: []) ?_; decide +kernel)) ?_
  refine a_bipush (v := 32) dX11_wordNext_30 (by decide) ?_
  refine a_icmp_eq 41 dX11_wordNext_32 (by decide) (fun c => absurd c (by decide)) (fun _ => ?_)
  refine a_iinc (v := 2) dX11_wordNext_35 rfl (by decide) (Nat.le_of_ble_eq_true rfl) (lv2 := [(4, .int 2), (2, .int 12), (3, .int 30), (6, .int 0), (5, .int 0), (1, .int 0), (0, .ref 89)]) rfl ?_
  refine a_goto 21 dX11_wordNext_38 (by decide) ?_
  refine a_ldcB dX11_wordNext_21 rfl ?_
  refine a_iload_n dX11_wordNext_23 rfl rfl ?_
  refine a_iload dX11_wordNext_24 rfl ?_
  refine a_iadd dX11_wordNext_26 ?_
  refine a_st (st2 := [.int 32, .ref 1000005]) (by first | decide +kernel | (refine congrArg (fun z => Value.int z :: [.ref 1000005]) ?_; decide +kernel) | (refine congrArg (fun z => Value.long z :: [.ref 1000005]) ?_; decide +kernel)) ?_
  refine a_callT (As := [.int 32]) (st := []) (i := 1) (bc := 0) (bs := 0) (mc := 0) (ms := 0) dX11_wordNext_27 mw_J0_charAt_5068e rfl ml_X11_194 im_J0_charAt_5068e se_J0_charAt_5068e (by decide) rfl (Nat.le_of_ble_eq_true rfl) (k_charAt1 (fr := fr + 5) (j := 32) (by unfold vp_in; decide +kernel)) (fun v M1 hq => ?_)
  obtain ⟨rfl, hM1⟩ := hq
  rw [hM1]
  clear hM1 M1
  refine a_st (st2 := [.int 116]) (by first | decide +kernel | (refine congrArg (fun z => Value.int z :: []) ?_; decide +kernel) | (refine congrArg (fun z => Value.long z :: []) ?_; decide +kernel)) ?_
  refine a_bipush (v := 32) dX11_wordNext_30 (by decide) ?_
  refine a_icmp_eq 41 dX11_wordNext_32 (by decide) (fun c => absurd c (by decide)) (fun _ => ?_)
  refine a_iinc (v := 3) dX11_wordNext_35 rfl (by decide) (Nat.le_of_ble_eq_true rfl) (lv2 := [(4, .int 3), (2, .int 12), (3, .int 30), (6, .int 0), (5, .int 0), (1, .int 0), (0, .ref 89)]) rfl ?_
  refine a_goto 21 dX11_wordNext_38 (by decide) ?_
  refine a_ldcB dX11_wordNext_21 rfl ?_
  refine a_iload_n dX11_wordNext_23 rfl rfl ?_
  refine a_iload dX11_wordNext_24 rfl ?_
  refine a_iadd dX11_wordNext_26 ?_
  refine a_st (st2 := [.int 33, .ref 1000005]) (by first | decide +kernel | (refine congrArg (fun z => Value.int z :: [.ref 1000005]) ?_; decide +kernel) | (refine congrArg (fun z => Value.long z :: [.ref 1000005]) ?_; decide +kernel)) ?_
  refine a_callT (As := [.int 33]) (st := []) (i := 1) (bc := 0) (bs := 0) (mc := 0) (ms := 0) dX11_wordNext_27 mw_J0_charAt_5068e rfl ml_X11_194 im_J0_charAt_5068e se_J0_charAt_5068e (by decide) rfl (Nat.le_of_ble_eq_true rfl) (k_charAt1 (fr := fr + 5) (j := 33) (by unfold vp_in; decide +kernel)) (fun v M1 hq => ?_)
  obtain ⟨rfl, hM1⟩ := hq
  rw [hM1]
  clear hM1 M1
  refine a_st (st2 := [.int 32]) (by first | decide +kernel | (refine congrArg (fun z => Value.int z :: []) ?_; decide +kernel) | (refine congrArg (fun z => Value.long z :: []) ?_; decide +kernel)) ?_
  refine a_bipush (v := 32) dX11_wordNext_30 (by decide) ?_
  refine a_icmp_eq 41 dX11_wordNext_32 (by decide) (fun _ => ?_) (fun c => absurd (by decide) c)
  refine a_iload dX11_wordNext_41 rfl ?_
  refine a_iload_n dX11_wordNext_43 rfl rfl ?_
  refine a_icmp_ne 51 dX11_wordNext_44 (by decide) (fun _ => ?_) (fun c => absurd c (by decide))
  refine a_iconst (v := 0) dX11_wordNext_51 (by decide) ?_
  refine a_istore dX11_wordNext_52 (Nat.le_of_ble_eq_true rfl) (lv2 := [(5, .int 0), (4, .int 3), (2, .int 12), (3, .int 30), (6, .int 0), (1, .int 0), (0, .ref 89)]) rfl ?_
  refine a_iconst (v := 0) dX11_wordNext_54 (by decide) ?_
  refine a_istore dX11_wordNext_55 (Nat.le_of_ble_eq_true rfl) (lv2 := [(6, .int 0), (5, .int 0), (4, .int 3), (2, .int 12), (3, .int 30), (1, .int 0), (0, .ref 89)]) rfl ?_
  refine a_iload dX11_wordNext_57 rfl ?_
  refine a_iload dX11_wordNext_59 rfl ?_
  refine a_icmp_ge 106 dX11_wordNext_61 (by decide) (fun c => absurd c (by decide)) (fun _ => ?_)
  refine a_iload dX11_wordNext_64 rfl ?_
  refine a_if_eq 106 dX11_wordNext_66 (by decide) (fun _ => ?_) (fun c => absurd (by decide) c)
  refine a_iload dX11_wordNext_106 rfl ?_
  refine a_if_eq 113 dX11_wordNext_108 (by decide) (fun _ => ?_) (fun c => absurd (by decide) c)
  refine a_iload_n dX11_wordNext_113 rfl rfl ?_
  refine a_iload dX11_wordNext_114 rfl ?_
  refine a_iconst (v := 1) dX11_wordNext_116 (by decide) ?_
  refine a_iadd dX11_wordNext_117 ?_
  refine a_st (st2 := [.int 4, .int 30]) (by first | decide +kernel | (refine congrArg (fun z => Value.int z :: [.int 30]) ?_; decide +kernel) | (refine congrArg (fun z => Value.long z :: [.int 30]) ?_; decide +kernel)) ?_
  refine a_iadd dX11_wordNext_118 ?_
  refine a_st (st2 := [.int 34]) (by first | decide +kernel | (refine congrArg (fun z => Value.int z :: []) ?_; decide +kernel) | (refine congrArg (fun z => Value.long z :: []) ?_; decide +kernel)) ?_
  refine a_istore_n dX11_wordNext_119 rfl (Nat.le_of_ble_eq_true rfl) (lv2 := [(3, .int 34), (6, .int 0), (5, .int 0), (4, .int 3), (2, .int 12), (1, .int 0), (0, .ref 89)]) rfl ?_
  refine a_iinc (v := 13) dX11_wordNext_120 rfl (by decide) (Nat.le_of_ble_eq_true rfl) (lv2 := [(2, .int 13), (3, .int 34), (6, .int 0), (5, .int 0), (4, .int 3), (1, .int 0), (0, .ref 89)]) rfl ?_
  refine a_goto 9 dX11_wordNext_123 (by decide) ?_
  refine a_iload_n dX11_wordNext_9 rfl rfl ?_
  refine a_ldcB dX11_wordNext_10 rfl ?_
  refine a_callT (As := []) (st := [.int 34]) (i := 1) (bc := 0) (bs := 0) (mc := 0) (ms := 0) dX11_wordNext_12 mw_J0_length_8abf5 rfl ml_X11_189 im_J0_length_8abf5 se_J0_length_8abf5 (by decide) rfl (Nat.le_of_ble_eq_true rfl) (k_tlen1 (fr := fr + 7)) (fun v M1 hq => ?_)
  obtain ⟨rfl, hM1⟩ := hq
  rw [hM1]
  clear hM1 M1
  show AW X _ 0 0 15 _ [.int 74, .int 34] _ _
  refine a_icmp_ge 126 dX11_wordNext_15 (by decide) (fun c => absurd c (by decide)) (fun _ => ?_)
  refine a_iconst (v := 0) dX11_wordNext_18 (by decide) ?_
  refine a_istore dX11_wordNext_19 (Nat.le_of_ble_eq_true rfl) (lv2 := [(4, .int 0), (2, .int 13), (3, .int 34), (6, .int 0), (5, .int 0), (1, .int 0), (0, .ref 89)]) rfl ?_
  refine a_ldcB dX11_wordNext_21 rfl ?_
  refine a_iload_n dX11_wordNext_23 rfl rfl ?_
  refine a_iload dX11_wordNext_24 rfl ?_
  refine a_iadd dX11_wordNext_26 ?_
  refine a_st (st2 := [.int 34, .ref 1000005]) (by first | decide +kernel | (refine congrArg (fun z => Value.int z :: [.ref 1000005]) ?_; decide +kernel) | (refine congrArg (fun z => Value.long z :: [.ref 1000005]) ?_; decide +kernel)) ?_
  refine a_callT (As := [.int 34]) (st := []) (i := 1) (bc := 0) (bs := 0) (mc := 0) (ms := 0) dX11_wordNext_27 mw_J0_charAt_5068e rfl ml_X11_194 im_J0_charAt_5068e se_J0_charAt_5068e (by decide) rfl (Nat.le_of_ble_eq_true rfl) (k_charAt1 (fr := fr + 5) (j := 34) (by unfold vp_in; decide +kernel)) (fun v M1 hq => ?_)
  obtain ⟨rfl, hM1⟩ := hq
  rw [hM1]
  clear hM1 M1
  refine a_st (st2 := [.int 102]) (by first | decide +kernel | (refine congrArg (fun z => Value.int z :: []) ?_; decide +kernel) | (refine congrArg (fun z => Value.long z :: []) ?_; decide +kernel)) ?_
  refine a_bipush (v := 32) dX11_wordNext_30 (by decide) ?_
  refine a_icmp_eq 41 dX11_wordNext_32 (by decide) (fun c => absurd c (by decide)) (fun _ => ?_)
  refine a_iinc (v := 1) dX11_wordNext_35 rfl (by decide) (Nat.le_of_ble_eq_true rfl) (lv2 := [(4, .int 1), (2, .int 13), (3, .int 34), (6, .int 0), (5, .int 0), (1, .int 0), (0, .ref 89)]) rfl ?_
  refine a_goto 21 dX11_wordNext_38 (by decide) ?_
  refine a_ldcB dX11_wordNext_21 rfl ?_
  refine a_iload_n dX11_wordNext_23 rfl rfl ?_
  refine a_iload dX11_wordNext_24 rfl ?_
  refine a_iadd dX11_wordNext_26 ?_
  refine a_st (st2 := [.int 35, .ref 1000005]) (by first | decide +kernel | (refine congrArg (fun z => Value.int z :: [.ref 1000005]) ?_; decide +kernel) | (refine congrArg (fun z => Value.long z :: [.ref 1000005]) ?_; decide +kernel)) ?_
  refine a_callT (As := [.int 35]) (st := []) (i := 1) (bc := 0) (bs := 0) (mc := 0) (ms := 0) dX11_wordNext_27 mw_J0_charAt_5068e rfl ml_X11_194 im_J0_charAt_5068e se_J0_charAt_5068e (by decide) rfl (Nat.le_of_ble_eq_true rfl) (k_charAt1 (fr := fr + 5) (j := 35) (by unfold vp_in; decide +kernel)) (fun v M1 hq => ?_)
  obtain ⟨rfl, hM1⟩ := hq
  rw [hM1]
  clear hM1 M1
  refine a_st (st2 := [.int 117]) (by first | decide +kernel | (refine congrArg (fun z => Value.int z :: []) ?_; decide +kernel) | (refine congrArg (fun z => Value.long z :: []) ?_; decide +kernel)) ?_
  refine a_bipush (v := 32) dX11_wordNext_30 (by decide) ?_
  refine a_icmp_eq 41 dX11_wordNext_32 (by decide) (fun c => absurd c (by decide)) (fun _ => ?_)
  refine a_iinc (v := 2) dX11_wordNext_35 rfl (by decide) (Nat.le_of_ble_eq_true rfl) (lv2 := [(4, .int 2), (2, .int 13), (3, .int 34), (6, .int 0), (5, .int 0), (1, .int 0), (0, .ref 89)]) rfl ?_
  refine a_goto 21 dX11_wordNext_38 (by decide) ?_
  refine a_ldcB dX11_wordNext_21 rfl ?_
  refine a_iload_n dX11_wordNext_23 rfl rfl ?_
  refine a_iload dX11_wordNext_24 rfl ?_
  refine a_iadd dX11_wordNext_26 ?_
  refine a_st (st2 := [.int 36, .ref 1000005]) (by first | decide +kernel | (refine congrArg (fun z => Value.int z :: [.ref 1000005]) ?_; decide +kernel) | (refine congrArg (fun z => Value.long z :: [.ref 1000005]) ?_; decide +kernel)) ?_
  refine a_callT (As := [.int 36]) (st := []) (i := 1) (bc := 0) (bs := 0) (mc := 0) (ms := 0) dX11_wordNext_27 mw_J0_charAt_5068e rfl ml_X11_194 im_J0_charAt_5068e se_J0_charAt_5068e (by decide) rfl (Nat.le_of_ble_eq_true rfl) (k_charAt1 (fr := fr + 5) (j := 36) (by unfold vp_in; decide +kernel)) (fun v M1 hq => ?_)
  obtain ⟨rfl, hM1⟩ := hq
  rw [hM1]
  clear hM1 M1
  refine a_st (st2 := [.int 110]) (by first | decide +kernel | (refine congrArg (fun z => Value.int z :: []) ?_; decide +kernel) | (refine congrArg (fun z => Value.long z :: []) ?_; decide +kernel)) ?_
  refine a_bipush (v := 32) dX11_wordNext_30 (by decide) ?_
  refine a_icmp_eq 41 dX11_wordNext_32 (by decide) (fun c => absurd c (by decide)) (fun _ => ?_)
  refine a_iinc (v := 3) dX11_wordNext_35 rfl (by decide) (Nat.le_of_ble_eq_true rfl) (lv2 := [(4, .int 3), (2, .int 13), (3, .int 34), (6, .int 0), (5, .int 0), (1, .int 0), (0, .ref 89)]) rfl ?_
  refine a_goto 21 dX11_wordNext_38 (by decide) ?_
  refine a_ldcB dX11_wordNext_21 rfl ?_
  refine a_iload_n dX11_wordNext_23 rfl rfl ?_
  refine a_iload dX11_wordNext_24 rfl ?_
  refine a_iadd dX11_wordNext_26 ?_
  refine a_st (st2 := [.int 37, .ref 1000005]) (by first | decide +kernel | (refine congrArg (fun z => Value.int z :: [.ref 1000005]) ?_; decide +kernel) | (refine congrArg (fun z => Value.long z :: [.ref 1000005]) ?_; decide +kernel)) ?_
  refine a_callT (As := [.int 37]) (st := []) (i := 1) (bc := 0) (bs := 0) (mc := 0) (ms := 0) dX11_wordNext_27 mw_J0_charAt_5068e rfl ml_X11_194 im_J0_charAt_5068e se_J0_charAt_5068e (by decide) rfl (Nat.le_of_ble_eq_true rfl) (k_charAt1 (fr := fr + 5) (j := 37) (by unfold vp_in; decide +kernel)) (fun v M1 hq => ?_)
  obtain ⟨rfl, hM1⟩ := hq
  rw [hM1]
  clear hM1 M1
  refine a_st (st2 := [.int 32]) (by first | decide +kernel | (refine congrArg (fun z => Value.int z :: []) ?_; decide +kernel) | (refine congrArg (fun z => Value.long z :: []) ?_; decide +kernel)) ?_
  refine a_bipush (v := 32) dX11_wordNext_30 (by decide) ?_
  refine a_icmp_eq 41 dX11_wordNext_32 (by decide) (fun _ => ?_) (fun c => absurd (by decide) c)
  refine a_iload dX11_wordNext_41 rfl ?_
  refine a_iload_n dX11_wordNext_43 rfl rfl ?_
  refine a_icmp_ne 51 dX11_wordNext_44 (by decide) (fun _ => ?_) (fun c => absurd c (by decide))
  refine a_iconst (v := 0) dX11_wordNext_51 (by decide) ?_
  refine a_istore dX11_wordNext_52 (Nat.le_of_ble_eq_true rfl) (lv2 := [(5, .int 0), (4, .int 3), (2, .int 13), (3, .int 34), (6, .int 0), (1, .int 0), (0, .ref 89)]) rfl ?_
  refine a_iconst (v := 0) dX11_wordNext_54 (by decide) ?_
  refine a_istore dX11_wordNext_55 (Nat.le_of_ble_eq_true rfl) (lv2 := [(6, .int 0), (5, .int 0), (4, .int 3), (2, .int 13), (3, .int 34), (1, .int 0), (0, .ref 89)]) rfl ?_
  refine a_iload dX11_wordNext_57 rfl ?_
  refine a_iload dX11_wordNext_59 rfl ?_
  refine a_icmp_ge 106 dX11_wordNext_61 (by decide) (fun c => absurd c (by decide)) (fun _ => ?_)
  refine a_iload dX11_wordNext_64 rfl ?_
  refine a_if_eq 106 dX11_wordNext_66 (by decide) (fun _ => ?_) (fun c => absurd (by decide) c)
  refine a_iload dX11_wordNext_106 rfl ?_
  refine a_if_eq 113 dX11_wordNext_108 (by decide) (fun _ => ?_) (fun c => absurd (by decide) c)
  refine a_iload_n dX11_wordNext_113 rfl rfl ?_
  refine a_iload dX11_wordNext_114 rfl ?_
  refine a_iconst (v := 1) dX11_wordNext_116 (by decide) ?_
  refine a_iadd dX11_wordNext_117 ?_
  refine a_st (st2 := [.int 4, .int 34]) (by first | decide +kernel | (refine congrArg (fun z => Value.int z :: [.int 34]) ?_; decide +kernel) | (refine congrArg (fun z => Value.long z :: [.int 34]) ?_; decide +kernel)) ?_
  refine a_iadd dX11_wordNext_118 ?_
  refine a_st (st2 := [.int 38]) (by first | decide +kernel | (refine congrArg (fun z => Value.int z :: []) ?_; decide +kernel) | (refine congrArg (fun z => Value.long z :: []) ?_; decide +kernel)) ?_
  refine a_istore_n dX11_wordNext_119 rfl (Nat.le_of_ble_eq_true rfl) (lv2 := [(3, .int 38), (6, .int 0), (5, .int 0), (4, .int 3), (2, .int 13), (1, .int 0), (0, .ref 89)]) rfl ?_
  refine a_iinc (v := 14) dX11_wordNext_120 rfl (by decide) (Nat.le_of_ble_eq_true rfl) (lv2 := [(2, .int 14), (3, .int 38), (6, .int 0), (5, .int 0), (4, .int 3), (1, .int 0), (0, .ref 89)]) rfl ?_
  refine a_goto 9 dX11_wordNext_123 (by decide) ?_
  refine a_iload_n dX11_wordNext_9 rfl rfl ?_
  refine a_ldcB dX11_wordNext_10 rfl ?_
  refine a_callT (As := []) (st := [.int 38]) (i := 1) (bc := 0) (bs := 0) (mc := 0) (ms := 0) dX11_wordNext_12 mw_J0_length_8abf5 rfl ml_X11_189 im_J0_length_8abf5 se_J0_length_8abf5 (by decide) rfl (Nat.le_of_ble_eq_true rfl) (k_tlen1 (fr := fr + 7)) (fun v M1 hq => ?_)
  obtain ⟨rfl, hM1⟩ := hq
  rw [hM1]
  clear hM1 M1
  show AW X _ 0 0 15 _ [.int 74, .int 38] _ _
  refine a_icmp_ge 126 dX11_wordNext_15 (by decide) (fun c => absurd c (by decide)) (fun _ => ?_)
  refine a_iconst (v := 0) dX11_wordNext_18 (by decide) ?_
  refine a_istore dX11_wordNext_19 (Nat.le_of_ble_eq_true rfl) (lv2 := [(4, .int 0), (2, .int 14), (3, .int 38), (6, .int 0), (5, .int 0), (1, .int 0), (0, .ref 89)]) rfl ?_
  refine a_ldcB dX11_wordNext_21 rfl ?_
  refine a_iload_n dX11_wordNext_23 rfl rfl ?_
  refine a_iload dX11_wordNext_24 rfl ?_
  refine a_iadd dX11_wordNext_26 ?_
  refine a_st (st2 := [.int 38, .ref 1000005]) (by first | decide +kernel | (refine congrArg (fun z => Value.int z :: [.ref 1000005]) ?_; decide +kernel) | (refine congrArg (fun z => Value.long z :: [.ref 1000005]) ?_; decide +kernel)) ?_
  refine a_callT (As := [.int 38]) (st := []) (i := 1) (bc := 0) (bs := 0) (mc := 0) (ms := 0) dX11_wordNext_27 mw_J0_charAt_5068e rfl ml_X11_194 im_J0_charAt_5068e se_J0_charAt_5068e (by decide) rfl (Nat.le_of_ble_eq_true rfl) (k_charAt1 (fr := fr + 5) (j := 38) (by unfold vp_in; decide +kernel)) (fun v M1 hq => ?_)
  obtain ⟨rfl, hM1⟩ := hq
  rw [hM1]
  clear hM1 M1
  refine a_st (st2 := [.int 97]) (by first | decide +kernel | (refine congrArg (fun z => Value.int z :: []) ?_; decide +kernel) | (refine congrArg (fun z => Value.long z :: []) ?_; decide +kernel)) ?_
  refine a_bipush (v := 32) dX11_wordNext_30 (by decide) ?_
  refine a_icmp_eq 41 dX11_wordNext_32 (by decide) (fun c => absurd c (by decide)) (fun _ => ?_)
  refine a_iinc (v := 1) dX11_wordNext_35 rfl (by decide) (Nat.le_of_ble_eq_true rfl) (lv2 := [(4, .int 1), (2, .int 14), (3, .int 38), (6, .int 0), (5, .int 0), (1, .int 0), (0, .ref 89)]) rfl ?_
  refine a_goto 21 dX11_wordNext_38 (by decide) ?_
  refine a_ldcB dX11_wordNext_21 rfl ?_
  refine a_iload_n dX11_wordNext_23 rfl rfl ?_
  refine a_iload dX11_wordNext_24 rfl ?_
  refine a_iadd dX11_wordNext_26 ?_
  refine a_st (st2 := [.int 39, .ref 1000005]) (by first | decide +kernel | (refine congrArg (fun z => Value.int z :: [.ref 1000005]) ?_; decide +kernel) | (refine congrArg (fun z => Value.long z :: [.ref 1000005]) ?_; decide +kernel)) ?_
  refine a_callT (As := [.int 39]) (st := []) (i := 1) (bc := 0) (bs := 0) (mc := 0) (ms := 0) dX11_wordNext_27 mw_J0_charAt_5068e rfl ml_X11_194 im_J0_charAt_5068e se_J0_charAt_5068e (by decide) rfl (Nat.le_of_ble_eq_true rfl) (k_charAt1 (fr := fr + 5) (j := 39) (by unfold vp_in; decide +kernel)) (fun v M1 hq => ?_)
  obtain ⟨rfl, hM1⟩ := hq
  rw [hM1]
  clear hM1 M1
  refine a_st (st2 := [.int 112]) (by first | decide +kernel | (refine congrArg (fun z => Value.int z :: []) ?_; decide +kernel) | (refine congrArg (fun z => Value.long z :: []) ?_; decide +kernel)) ?_
  refine a_bipush (v := 32) dX11_wordNext_30 (by decide) ?_
  refine a_icmp_eq 41 dX11_wordNext_32 (by decide) (fun c => absurd c (by decide)) (fun _ => ?_)
  refine a_iinc (v := 2) dX11_wordNext_35 rfl (by decide) (Nat.le_of_ble_eq_true rfl) (lv2 := [(4, .int 2), (2, .int 14), (3, .int 38), (6, .int 0), (5, .int 0), (1, .int 0), (0, .ref 89)]) rfl ?_
  refine a_goto 21 dX11_wordNext_38 (by decide) ?_
  refine a_ldcB dX11_wordNext_21 rfl ?_
  refine a_iload_n dX11_wordNext_23 rfl rfl ?_
  refine a_iload dX11_wordNext_24 rfl ?_
  refine a_iadd dX11_wordNext_26 ?_
  refine a_st (st2 := [.int 40, .ref 1000005]) (by first | decide +kernel | (refine congrArg (fun z => Value.int z :: [.ref 1000005]) ?_; decide +kernel) | (refine congrArg (fun z => Value.long z :: [.ref 1000005]) ?_; decide +kernel)) ?_
  refine a_callT (As := [.int 40]) (st := []) (i := 1) (bc := 0) (bs := 0) (mc := 0) (ms := 0) dX11_wordNext_27 mw_J0_charAt_5068e rfl ml_X11_194 im_J0_charAt_5068e se_J0_charAt_5068e (by decide) rfl (Nat.le_of_ble_eq_true rfl) (k_charAt1 (fr := fr + 5) (j := 40) (by unfold vp_in; decide +kernel)) (fun v M1 hq => ?_)
  obtain ⟨rfl, hM1⟩ := hq
  rw [hM1]
  clear hM1 M1
  refine a_st (st2 := [.int 112]) (by first | decide +kernel | (refine congrArg (fun z => Value.int z :: []) ?_; decide +kernel) | (refine congrArg (fun z => Value.long z :: []) ?_; decide +kernel)) ?_
  refine a_bipush (v := 32) dX11_wordNext_30 (by decide) ?_
  refine a_icmp_eq 41 dX11_wordNext_32 (by decide) (fun c => absurd c (by decide)) (fun _ => ?_)
  refine a_iinc (v := 3) dX11_wordNext_35 rfl (by decide) (Nat.le_of_ble_eq_true rfl) (lv2 := [(4, .int 3), (2, .int 14), (3, .int 38), (6, .int 0), (5, .int 0), (1, .int 0), (0, .ref 89)]) rfl ?_
  refine a_goto 21 dX11_wordNext_38 (by decide) ?_
  refine a_ldcB dX11_wordNext_21 rfl ?_
  refine a_iload_n dX11_wordNext_23 rfl rfl ?_
  refine a_iload dX11_wordNext_24 rfl ?_
  refine a_iadd dX11_wordNext_26 ?_
  refine a_st (st2 := [.int 41, .ref 1000005]) (by first | decide +kernel | (refine congrArg (fun z => Value.int z :: [.ref 1000005]) ?_; decide +kernel) | (refine congrArg (fun z => Value.long z :: [.ref 1000005]) ?_; decide +kernel)) ?_
  refine a_callT (As := [.int 41]) (st := []) (i := 1) (bc := 0) (bs := 0) (mc := 0) (ms := 0) dX11_wordNext_27 mw_J0_charAt_5068e rfl ml_X11_194 im_J0_charAt_5068e se_J0_charAt_5068e (by decide) rfl (Nat.le_of_ble_eq_true rfl) (k_charAt1 (fr := fr + 5) (j := 41) (by unfold vp_in; decide +kernel)) (fun v M1 hq => ?_)
  obtain ⟨rfl, hM1⟩ := hq
  rw [hM1]
  clear hM1 M1
  refine a_st (st2 := [.int 32]) (by first | decide +kernel | (refine congrArg (fun z => Value.int z :: []) ?_; decide +kernel) | (refine congrArg (fun z => Value.long z :: []) ?_; decide +kernel)) ?_
  refine a_bipush (v := 32) dX11_wordNext_30 (by decide) ?_
  refine a_icmp_eq 41 dX11_wordNext_32 (by decide) (fun _ => ?_) (fun c => absurd (by decide) c)
  refine a_iload dX11_wordNext_41 rfl ?_
  refine a_iload_n dX11_wordNext_43 rfl rfl ?_
  refine a_icmp_ne 51 dX11_wordNext_44 (by decide) (fun _ => ?_) (fun c => absurd c (by decide))
  refine a_iconst (v := 0) dX11_wordNext_51 (by decide) ?_
  refine a_istore dX11_wordNext_52 (Nat.le_of_ble_eq_true rfl) (lv2 := [(5, .int 0), (4, .int 3), (2, .int 14), (3, .int 38), (6, .int 0), (1, .int 0), (0, .ref 89)]) rfl ?_
  refine a_iconst (v := 0) dX11_wordNext_54 (by decide) ?_
  refine a_istore dX11_wordNext_55 (Nat.le_of_ble_eq_true rfl) (lv2 := [(6, .int 0), (5, .int 0), (4, .int 3), (2, .int 14), (3, .int 38), (1, .int 0), (0, .ref 89)]) rfl ?_
  refine a_iload dX11_wordNext_57 rfl ?_
  refine a_iload dX11_wordNext_59 rfl ?_
  refine a_icmp_ge 106 dX11_wordNext_61 (by decide) (fun c => absurd c (by decide)) (fun _ => ?_)
  refine a_iload dX11_wordNext_64 rfl ?_
  refine a_if_eq 106 dX11_wordNext_66 (by decide) (fun _ => ?_) (fun c => absurd (by decide) c)
  refine a_iload dX11_wordNext_106 rfl ?_
  refine a_if_eq 113 dX11_wordNext_108 (by decide) (fun _ => ?_) (fun c => absurd (by decide) c)
  refine a_iload_n dX11_wordNext_113 rfl rfl ?_
  refine a_iload dX11_wordNext_114 rfl ?_
  refine a_iconst (v := 1) dX11_wordNext_116 (by decide) ?_
  refine a_iadd dX11_wordNext_117 ?_
  refine a_st (st2 := [.int 4, .int 38]) (by first | decide +kernel | (refine congrArg (fun z => Value.int z :: [.int 38]) ?_; decide +kernel) | (refine congrArg (fun z => Value.long z :: [.int 38]) ?_; decide +kernel)) ?_
  refine a_iadd dX11_wordNext_118 ?_
  refine a_st (st2 := [.int 42]) (by first | decide +kernel | (refine congrArg (fun z => Value.int z :: []) ?_; decide +kernel) | (refine congrArg (fun z => Value.long z :: []) ?_; decide +kernel)) ?_
  refine a_istore_n dX11_wordNext_119 rfl (Nat.le_of_ble_eq_true rfl) (lv2 := [(3, .int 42), (6, .int 0), (5, .int 0), (4, .int 3), (2, .int 14), (1, .int 0), (0, .ref 89)]) rfl ?_
  refine a_iinc (v := 15) dX11_wordNext_120 rfl (by decide) (Nat.le_of_ble_eq_true rfl) (lv2 := [(2, .int 15), (3, .int 42), (6, .int 0), (5, .int 0), (4, .int 3), (1, .int 0), (0, .ref 89)]) rfl ?_
  refine a_goto 9 dX11_wordNext_123 (by decide) ?_
  refine a_iload_n dX11_wordNext_9 rfl rfl ?_
  refine a_ldcB dX11_wordNext_10 rfl ?_
  refine a_callT (As := []) (st := [.int 42]) (i := 1) (bc := 0) (bs := 0) (mc := 0) (ms := 0) dX11_wordNext_12 mw_J0_length_8abf5 rfl ml_X11_189 im_J0_length_8abf5 se_J0_length_8abf5 (by decide) rfl (Nat.le_of_ble_eq_true rfl) (k_tlen1 (fr := fr + 7)) (fun v M1 hq => ?_)
  obtain ⟨rfl, hM1⟩ := hq
  rw [hM1]
  clear hM1 M1
  show AW X _ 0 0 15 _ [.int 74, .int 42] _ _
  refine a_icmp_ge 126 dX11_wordNext_15 (by decide) (fun c => absurd c (by decide)) (fun _ => ?_)
  refine a_iconst (v := 0) dX11_wordNext_18 (by decide) ?_
  refine a_istore dX11_wordNext_19 (Nat.le_of_ble_eq_true rfl) (lv2 := [(4, .int 0), (2, .int 15), (3, .int 42), (6, .int 0), (5, .int 0), (1, .int 0), (0, .ref 89)]) rfl ?_
  refine a_ldcB dX11_wordNext_21 rfl ?_
  refine a_iload_n dX11_wordNext_23 rfl rfl ?_
  refine a_iload dX11_wordNext_24 rfl ?_
  refine a_iadd dX11_wordNext_26 ?_
  refine a_st (st2 := [.int 42, .ref 1000005]) (by first | decide +kernel | (refine congrArg (fun z => Value.int z :: [.ref 1000005]) ?_; decide +kernel) | (refine congrArg (fun z => Value.long z :: [.ref 1000005]) ?_; decide +kernel)) ?_
  refine a_callT (As := [.int 42]) (st := []) (i := 1) (bc := 0) (bs := 0) (mc := 0) (ms := 0) dX11_wordNext_27 mw_J0_charAt_5068e rfl ml_X11_194 im_J0_charAt_5068e se_J0_charAt_5068e (by decide) rfl (Nat.le_of_ble_eq_true rfl) (k_charAt1 (fr := fr + 5) (j := 42) (by unfold vp_in; decide +kernel)) (fun v M1 hq => ?_)
  obtain ⟨rfl, hM1⟩ := hq
  rw [hM1]
  clear hM1 M1
  refine a_st (st2 := [.int 112]) (by first | decide +kernel | (refine congrArg (fun z => Value.int z :: []) ?_; decide +kernel) | (refine congrArg (fun z => Value.long z :: []) ?_; decide +kernel)) ?_
  refine a_bipush (v := 32) dX11_wordNext_30 (by decide) ?_
  refine a_icmp_eq 41 dX11_wordNext_32 (by decide) (fun c => absurd c (by decide)) (fun _ => ?_)
  refine a_iinc (v := 1) dX11_wordNext_35 rfl (by decide) (Nat.le_of_ble_eq_true rfl) (lv2 := [(4, .int 1), (2, .int 15), (3, .int 42), (6, .int 0), (5, .int 0), (1, .int 0), (0, .ref 89)]) rfl ?_
  refine a_goto 21 dX11_wordNext_38 (by decide) ?_
  refine a_ldcB dX11_wordNext_21 rfl ?_
  refine a_iload_n dX11_wordNext_23 rfl rfl ?_
  refine a_iload dX11_wordNext_24 rfl ?_
  refine a_iadd dX11_wordNext_26 ?_
  refine a_st (st2 := [.int 43, .ref 1000005]) (by first | decide +kernel | (refine congrArg (fun z => Value.int z :: [.ref 1000005]) ?_; decide +kernel) | (refine congrArg (fun z => Value.long z :: [.ref 1000005]) ?_; decide +kernel)) ?_
  refine a_callT (As := [.int 43]) (st := []) (i := 1) (bc := 0) (bs := 0) (mc := 0) (ms := 0) dX11_wordNext_27 mw_J0_charAt_5068e rfl ml_X11_194 im_J0_charAt_5068e se_J0_charAt_5068e (by decide) rfl (Nat.le_of_ble_eq_true rfl) (k_charAt1 (fr := fr + 5) (j := 43) (by unfold vp_in; decide +kernel)) (fun v M1 hq => ?_)
  obtain ⟨rfl, hM1⟩ := hq
  rw [hM1]
  clear hM1 M1
  refine a_st (st2 := [.int 97]) (by first | decide +kernel | (refine congrArg (fun z => Value.int z :: []) ?_; decide +kernel) | (refine congrArg (fun z => Value.long z :: []) ?_; decide +kernel)) ?_
  refine a_bipush (v := 32) dX11_wordNext_30 (by decide) ?_
  refine a_icmp_eq 41 dX11_wordNext_32 (by decide) (fun c => absurd c (by decide)) (fun _ => ?_)
  refine a_iinc (v := 2) dX11_wordNext_35 rfl (by decide) (Nat.le_of_ble_eq_true rfl) (lv2 := [(4, .int 2), (2, .int 15), (3, .int 42), (6, .int 0), (5, .int 0), (1, .int 0), (0, .ref 89)]) rfl ?_
  refine a_goto 21 dX11_wordNext_38 (by decide) ?_
  refine a_ldcB dX11_wordNext_21 rfl ?_
  refine a_iload_n dX11_wordNext_23 rfl rfl ?_
  refine a_iload dX11_wordNext_24 rfl ?_
  refine a_iadd dX11_wordNext_26 ?_
  refine a_st (st2 := [.int 44, .ref 1000005]) (by first | decide +kernel | (refine congrArg (fun z => Value.int z :: [.ref 1000005]) ?_; decide +kernel) | (refine congrArg (fun z => Value.long z :: [.ref 1000005]) ?_; decide +kernel)) ?_
  refine a_callT (As := [.int 44]) (st := []) (i := 1) (bc := 0) (bs := 0) (mc := 0) (ms := 0) dX11_wordNext_27 mw_J0_charAt_5068e rfl ml_X11_194 im_J0_charAt_5068e se_J0_charAt_5068e (by decide) rfl (Nat.le_of_ble_eq_true rfl) (k_charAt1 (fr := fr + 5) (j := 44) (by unfold vp_in; decide +kernel)) (fun v M1 hq => ?_)
  obtain ⟨rfl, hM1⟩ := hq
  rw [hM1]
  clear hM1 M1
  refine a_st (st2 := [.int 105]) (by first | decide +kernel | (refine congrArg (fun z => Value.int z :: []) ?_; decide +kernel) | (refine congrArg (fun z => Value.long z :: []) ?_; decide +kernel)) ?_
  refine a_bipush (v := 32) dX11_wordNext_30 (by decide) ?_
  refine a_icmp_eq 41 dX11_wordNext_32 (by decide) (fun c => absurd c (by decide)) (fun _ => ?_)
  refine a_iinc (v := 3) dX11_wordNext_35 rfl (by decide) (Nat.le_of_ble_eq_true rfl) (lv2 := [(4, .int 3), (2, .int 15), (3, .int 42), (6, .int 0), (5, .int 0), (1, .int 0), (0, .ref 89)]) rfl ?_
  refine a_goto 21 dX11_wordNext_38 (by decide) ?_
  refine a_ldcB dX11_wordNext_21 rfl ?_
  refine a_iload_n dX11_wordNext_23 rfl rfl ?_
  refine a_iload dX11_wordNext_24 rfl ?_
  refine a_iadd dX11_wordNext_26 ?_
  refine a_st (st2 := [.int 45, .ref 1000005]) (by first | decide +kernel | (refine congrArg (fun z => Value.int z :: [.ref 1000005]) ?_; decide +kernel) | (refine congrArg (fun z => Value.long z :: [.ref 1000005]) ?_; decide +kernel)) ?_
  refine a_callT (As := [.int 45]) (st := []) (i := 1) (bc := 0) (bs := 0) (mc := 0) (ms := 0) dX11_wordNext_27 mw_J0_charAt_5068e rfl ml_X11_194 im_J0_charAt_5068e se_J0_charAt_5068e (by decide) rfl (Nat.le_of_ble_eq_true rfl) (k_charAt1 (fr := fr + 5) (j := 45) (by unfold vp_in; decide +kernel)) (fun v M1 hq => ?_)
  obtain ⟨rfl, hM1⟩ := hq
  rw [hM1]
  clear hM1 M1
  refine a_st (st2 := [.int 114]) (by first | decide +kernel | (refine congrArg (fun z => Value.int z :: []) ?_; decide +kernel) | (refine congrArg (fun z => Value.long z :: []) ?_; decide +kernel)) ?_
  refine a_bipush (v := 32) dX11_wordNext_30 (by decide) ?_
  refine a_icmp_eq 41 dX11_wordNext_32 (by decide) (fun c => absurd c (by decide)) (fun _ => ?_)
  refine a_iinc (v := 4) dX11_wordNext_35 rfl (by decide) (Nat.le_of_ble_eq_true rfl) (lv2 := [(4, .int 4), (2, .int 15), (3, .int 42), (6, .int 0), (5, .int 0), (1, .int 0), (0, .ref 89)]) rfl ?_
  refine a_goto 21 dX11_wordNext_38 (by decide) ?_
  refine a_ldcB dX11_wordNext_21 rfl ?_
  refine a_iload_n dX11_wordNext_23 rfl rfl ?_
  refine a_iload dX11_wordNext_24 rfl ?_
  refine a_iadd dX11_wordNext_26 ?_
  refine a_st (st2 := [.int 46, .ref 1000005]) (by first | decide +kernel | (refine congrArg (fun z => Value.int z :: [.ref 1000005]) ?_; decide +kernel) | (refine congrArg (fun z => Value.long z :: [.ref 1000005]) ?_; decide +kernel)) ?_
  refine a_callT (As := [.int 46]) (st := []) (i := 1) (bc := 0) (bs := 0) (mc := 0) (ms := 0) dX11_wordNext_27 mw_J0_charAt_5068e rfl ml_X11_194 im_J0_charAt_5068e se_J0_charAt_5068e (by decide) rfl (Nat.le_of_ble_eq_true rfl) (k_charAt1 (fr := fr + 5) (j := 46) (by unfold vp_in; decide +kernel)) (fun v M1 hq => ?_)
  obtain ⟨rfl, hM1⟩ := hq
  rw [hM1]
  clear hM1 M1
  refine a_st (st2 := [.int 32]) (by first | decide +kernel | (refine congrArg (fun z => Value.int z :: []) ?_; decide +kernel) | (refine congrArg (fun z => Value.long z :: []) ?_; decide +kernel)) ?_
  refine a_bipush (v := 32) dX11_wordNext_30 (by decide) ?_
  refine a_icmp_eq 41 dX11_wordNext_32 (by decide) (fun _ => ?_) (fun c => absurd (by decide) c)
  refine a_iload dX11_wordNext_41 rfl ?_
  refine a_iload_n dX11_wordNext_43 rfl rfl ?_
  refine a_icmp_ne 51 dX11_wordNext_44 (by decide) (fun _ => ?_) (fun c => absurd c (by decide))
  refine a_iconst (v := 0) dX11_wordNext_51 (by decide) ?_
  refine a_istore dX11_wordNext_52 (Nat.le_of_ble_eq_true rfl) (lv2 := [(5, .int 0), (4, .int 4), (2, .int 15), (3, .int 42), (6, .int 0), (1, .int 0), (0, .ref 89)]) rfl ?_
  refine a_iconst (v := 0) dX11_wordNext_54 (by decide) ?_
  refine a_istore dX11_wordNext_55 (Nat.le_of_ble_eq_true rfl) (lv2 := [(6, .int 0), (5, .int 0), (4, .int 4), (2, .int 15), (3, .int 42), (1, .int 0), (0, .ref 89)]) rfl ?_
  refine a_iload dX11_wordNext_57 rfl ?_
  refine a_iload dX11_wordNext_59 rfl ?_
  refine a_icmp_ge 106 dX11_wordNext_61 (by decide) (fun c => absurd c (by decide)) (fun _ => ?_)
  refine a_iload dX11_wordNext_64 rfl ?_
  refine a_if_eq 106 dX11_wordNext_66 (by decide) (fun _ => ?_) (fun c => absurd (by decide) c)
  refine a_iload dX11_wordNext_106 rfl ?_
  refine a_if_eq 113 dX11_wordNext_108 (by decide) (fun _ => ?_) (fun c => absurd (by decide) c)
  refine a_iload_n dX11_wordNext_113 rfl rfl ?_
  refine a_iload dX11_wordNext_114 rfl ?_
  refine a_iconst (v := 1) dX11_wordNext_116 (by decide) ?_
  refine a_iadd dX11_wordNext_117 ?_
  refine a_st (st2 := [.int 5, .int 42]) (by first | decide +kernel | (refine congrArg (fun z => Value.int z :: [.int 42]) ?_; decide +kernel) | (refine congrArg (fun z => Value.long z :: [.int 42]) ?_; decide +kernel)) ?_
  refine a_iadd dX11_wordNext_118 ?_
  refine a_st (st2 := [.int 47]) (by first | decide +kernel | (refine congrArg (fun z => Value.int z :: []) ?_; decide +kernel) | (refine congrArg (fun z => Value.long z :: []) ?_; decide +kernel)) ?_
  refine a_istore_n dX11_wordNext_119 rfl (Nat.le_of_ble_eq_true rfl) (lv2 := [(3, .int 47), (6, .int 0), (5, .int 0), (4, .int 4), (2, .int 15), (1, .int 0), (0, .ref 89)]) rfl ?_
  refine a_iinc (v := 16) dX11_wordNext_120 rfl (by decide) (Nat.le_of_ble_eq_true rfl) (lv2 := [(2, .int 16), (3, .int 47), (6, .int 0), (5, .int 0), (4, .int 4), (1, .int 0), (0, .ref 89)]) rfl ?_
  refine a_goto 9 dX11_wordNext_123 (by decide) ?_
  refine a_iload_n dX11_wordNext_9 rfl rfl ?_
  refine a_ldcB dX11_wordNext_10 rfl ?_
  refine a_callT (As := []) (st := [.int 47]) (i := 1) (bc := 0) (bs := 0) (mc := 0) (ms := 0) dX11_wordNext_12 mw_J0_length_8abf5 rfl ml_X11_189 im_J0_length_8abf5 se_J0_length_8abf5 (by decide) rfl (Nat.le_of_ble_eq_true rfl) (k_tlen1 (fr := fr + 7)) (fun v M1 hq => ?_)
  obtain ⟨rfl, hM1⟩ := hq
  rw [hM1]
  clear hM1 M1
  show AW X _ 0 0 15 _ [.int 74, .int 47] _ _
  refine a_icmp_ge 126 dX11_wordNext_15 (by decide) (fun c => absurd c (by decide)) (fun _ => ?_)
  refine a_iconst (v := 0) dX11_wordNext_18 (by decide) ?_
  refine a_istore dX11_wordNext_19 (Nat.le_of_ble_eq_true rfl) (lv2 := [(4, .int 0), (2, .int 16), (3, .int 47), (6, .int 0), (5, .int 0), (1, .int 0), (0, .ref 89)]) rfl ?_
  refine a_ldcB dX11_wordNext_21 rfl ?_
  refine a_iload_n dX11_wordNext_23 rfl rfl ?_
  refine a_iload dX11_wordNext_24 rfl ?_
  refine a_iadd dX11_wordNext_26 ?_
  refine a_st (st2 := [.int 47, .ref 1000005]) (by first | decide +kernel | (refine congrArg (fun z => Value.int z :: [.ref 1000005]) ?_; decide +kernel) | (refine congrArg (fun z => Value.long z :: [.ref 1000005]) ?_; decide +kernel)) ?_
  refine a_callT (As := [.int 47]) (st := []) (i := 1) (bc := 0) (bs := 0) (mc := 0) (ms := 0) dX11_wordNext_27 mw_J0_charAt_5068e rfl ml_X11_194 im_J0_charAt_5068e se_J0_charAt_5068e (by decide) rfl (Nat.le_of_ble_eq_true rfl) (k_charAt1 (fr := fr + 5) (j := 47) (by unfold vp_in; decide +kernel)) (fun v M1 hq => ?_)
  obtain ⟨rfl, hM1⟩ := hq
  rw [hM1]
  clear hM1 M1
  refine a_st (st2 := [.int 102]) (by first | decide +kernel | (refine congrArg (fun z => Value.int z :: []) ?_; decide +kernel) | (refine congrArg (fun z => Value.long z :: []) ?_; decide +kernel)) ?_
  refine a_bipush (v := 32) dX11_wordNext_30 (by decide) ?_
  refine a_icmp_eq 41 dX11_wordNext_32 (by decide) (fun c => absurd c (by decide)) (fun _ => ?_)
  refine a_iinc (v := 1) dX11_wordNext_35 rfl (by decide) (Nat.le_of_ble_eq_true rfl) (lv2 := [(4, .int 1), (2, .int 16), (3, .int 47), (6, .int 0), (5, .int 0), (1, .int 0), (0, .ref 89)]) rfl ?_
  refine a_goto 21 dX11_wordNext_38 (by decide) ?_
  refine a_ldcB dX11_wordNext_21 rfl ?_
  refine a_iload_n dX11_wordNext_23 rfl rfl ?_
  refine a_iload dX11_wordNext_24 rfl ?_
  refine a_iadd dX11_wordNext_26 ?_
  refine a_st (st2 := [.int 48, .ref 1000005]) (by first | decide +kernel | (refine congrArg (fun z => Value.int z :: [.ref 1000005]) ?_; decide +kernel) | (refine congrArg (fun z => Value.long z :: [.ref 1000005]) ?_; decide +kernel)) ?_
  refine a_callT (As := [.int 48]) (st := []) (i := 1) (bc := 0) (bs := 0) (mc := 0) (ms := 0) dX11_wordNext_27 mw_J0_charAt_5068e rfl ml_X11_194 im_J0_charAt_5068e se_J0_charAt_5068e (by decide) rfl (Nat.le_of_ble_eq_true rfl) (k_charAt1 (fr := fr + 5) (j := 48) (by unfold vp_in; decide +kernel)) (fun v M1 hq => ?_)
  obtain ⟨rfl, hM1⟩ := hq
  rw [hM1]
  clear hM1 M1
  refine a_st (st2 := [.int 115]) (by first | decide +kernel | (refine congrArg (fun z => Value.int z :: []) ?_; decide +kernel) | (refine congrArg (fun z => Value.long z :: []) ?_; decide +kernel)) ?_
  refine a_bipush (v := 32) dX11_wordNext_30 (by decide) ?_
  refine a_icmp_eq 41 dX11_wordNext_32 (by decide) (fun c => absurd c (by decide)) (fun _ => ?_)
  refine a_iinc (v := 2) dX11_wordNext_35 rfl (by decide) (Nat.le_of_ble_eq_true rfl) (lv2 := [(4, .int 2), (2, .int 16), (3, .int 47), (6, .int 0), (5, .int 0), (1, .int 0), (0, .ref 89)]) rfl ?_
  refine a_goto 21 dX11_wordNext_38 (by decide) ?_
  refine a_ldcB dX11_wordNext_21 rfl ?_
  refine a_iload_n dX11_wordNext_23 rfl rfl ?_
  refine a_iload dX11_wordNext_24 rfl ?_
  refine a_iadd dX11_wordNext_26 ?_
  refine a_st (st2 := [.int 49, .ref 1000005]) (by first | decide +kernel | (refine congrArg (fun z => Value.int z :: [.ref 1000005]) ?_; decide +kernel) | (refine congrArg (fun z => Value.long z :: [.ref 1000005]) ?_; decide +kernel)) ?_
  refine a_callT (As := [.int 49]) (st := []) (i := 1) (bc := 0) (bs := 0) (mc := 0) (ms := 0) dX11_wordNext_27 mw_J0_charAt_5068e rfl ml_X11_194 im_J0_charAt_5068e se_J0_charAt_5068e (by decide) rfl (Nat.le_of_ble_eq_true rfl) (k_charAt1 (fr := fr + 5) (j := 49) (by unfold vp_in; decide +kernel)) (fun v M1 hq => ?_)
  obtain ⟨rfl, hM1⟩ := hq
  rw [hM1]
  clear hM1 M1
  refine a_st (st2 := [.int 116]) (by first | decide +kernel | (refine congrArg (fun z => Value.int z :: []) ?_; decide +kernel) | (refine congrArg (fun z => Value.long z :: []) ?_; decide +kernel)) ?_
  refine a_bipush (v := 32) dX11_wordNext_30 (by decide) ?_
  refine a_icmp_eq 41 dX11_wordNext_32 (by decide) (fun c => absurd c (by decide)) (fun _ => ?_)
  refine a_iinc (v := 3) dX11_wordNext_35 rfl (by decide) (Nat.le_of_ble_eq_true rfl) (lv2 := [(4, .int 3), (2, .int 16), (3, .int 47), (6, .int 0), (5, .int 0), (1, .int 0), (0, .ref 89)]) rfl ?_
  refine a_goto 21 dX11_wordNext_38 (by decide) ?_
  refine a_ldcB dX11_wordNext_21 rfl ?_
  refine a_iload_n dX11_wordNext_23 rfl rfl ?_
  refine a_iload dX11_wordNext_24 rfl ?_
  refine a_iadd dX11_wordNext_26 ?_
  refine a_st (st2 := [.int 50, .ref 1000005]) (by first | decide +kernel | (refine congrArg (fun z => Value.int z :: [.ref 1000005]) ?_; decide +kernel) | (refine congrArg (fun z => Value.long z :: [.ref 1000005]) ?_; decide +kernel)) ?_
  refine a_callT (As := [.int 50]) (st := []) (i := 1) (bc := 0) (bs := 0) (mc := 0) (ms := 0) dX11_wordNext_27 mw_J0_charAt_5068e rfl ml_X11_194 im_J0_charAt_5068e se_J0_charAt_5068e (by decide) rfl (Nat.le_of_ble_eq_true rfl) (k_charAt1 (fr := fr + 5) (j := 50) (by unfold vp_in; decide +kernel)) (fun v M1 hq => ?_)
  obtain ⟨rfl, hM1⟩ := hq
  rw [hM1]
  clear hM1 M1
  refine a_st (st2 := [.int 32]) (by first | decide +kernel | (refine congrArg (fun z => Value.int z :: []) ?_; decide +kernel) | (refine congrArg (fun z => Value.long z :: []) ?_; decide +kernel)) ?_
  refine a_bipush (v := 32) dX11_wordNext_30 (by decide) ?_
  refine a_icmp_eq 41 dX11_wordNext_32 (by decide) (fun _ => ?_) (fun c => absurd (by decide) c)
  refine a_iload dX11_wordNext_41 rfl ?_
  refine a_iload_n dX11_wordNext_43 rfl rfl ?_
  refine a_icmp_ne 51 dX11_wordNext_44 (by decide) (fun _ => ?_) (fun c => absurd c (by decide))
  refine a_iconst (v := 0) dX11_wordNext_51 (by decide) ?_
  refine a_istore dX11_wordNext_52 (Nat.le_of_ble_eq_true rfl) (lv2 := [(5, .int 0), (4, .int 3), (2, .int 16), (3, .int 47), (6, .int 0), (1, .int 0), (0, .ref 89)]) rfl ?_
  refine a_iconst (v := 0) dX11_wordNext_54 (by decide) ?_
  refine a_istore dX11_wordNext_55 (Nat.le_of_ble_eq_true rfl) (lv2 := [(6, .int 0), (5, .int 0), (4, .int 3), (2, .int 16), (3, .int 47), (1, .int 0), (0, .ref 89)]) rfl ?_
  refine a_iload dX11_wordNext_57 rfl ?_
  refine a_iload dX11_wordNext_59 rfl ?_
  refine a_icmp_ge 106 dX11_wordNext_61 (by decide) (fun c => absurd c (by decide)) (fun _ => ?_)
  refine a_iload dX11_wordNext_64 rfl ?_
  refine a_if_eq 106 dX11_wordNext_66 (by decide) (fun _ => ?_) (fun c => absurd (by decide) c)
  refine a_iload dX11_wordNext_106 rfl ?_
  refine a_if_eq 113 dX11_wordNext_108 (by decide) (fun _ => ?_) (fun c => absurd (by decide) c)
  refine a_iload_n dX11_wordNext_113 rfl rfl ?_
  refine a_iload dX11_wordNext_114 rfl ?_
  refine a_iconst (v := 1) dX11_wordNext_116 (by decide) ?_
  refine a_iadd dX11_wordNext_117 ?_
  refine a_st (st2 := [.int 4, .int 47]) (by first | decide +kernel | (refine congrArg (fun z => Value.int z :: [.int 47]) ?_; decide +kernel) | (refine congrArg (fun z => Value.long z :: [.int 47]) ?_; decide +kernel)) ?_
  refine a_iadd dX11_wordNext_118 ?_
  refine a_st (st2 := [.int 51]) (by first | decide +kernel | (refine congrArg (fun z => Value.int z :: []) ?_; decide +kernel) | (refine congrArg (fun z => Value.long z :: []) ?_; decide +kernel)) ?_
  refine a_istore_n dX11_wordNext_119 rfl (Nat.le_of_ble_eq_true rfl) (lv2 := [(3, .int 51), (6, .int 0), (5, .int 0), (4, .int 3), (2, .int 16), (1, .int 0), (0, .ref 89)]) rfl ?_
  refine a_iinc (v := 17) dX11_wordNext_120 rfl (by decide) (Nat.le_of_ble_eq_true rfl) (lv2 := [(2, .int 17), (3, .int 51), (6, .int 0), (5, .int 0), (4, .int 3), (1, .int 0), (0, .ref 89)]) rfl ?_
  refine a_goto 9 dX11_wordNext_123 (by decide) ?_
  refine a_iload_n dX11_wordNext_9 rfl rfl ?_
  refine a_ldcB dX11_wordNext_10 rfl ?_
  refine a_callT (As := []) (st := [.int 51]) (i := 1) (bc := 0) (bs := 0) (mc := 0) (ms := 0) dX11_wordNext_12 mw_J0_length_8abf5 rfl ml_X11_189 im_J0_length_8abf5 se_J0_length_8abf5 (by decide) rfl (Nat.le_of_ble_eq_true rfl) (k_tlen1 (fr := fr + 7)) (fun v M1 hq => ?_)
  obtain ⟨rfl, hM1⟩ := hq
  rw [hM1]
  clear hM1 M1
  show AW X _ 0 0 15 _ [.int 74, .int 51] _ _
  refine a_icmp_ge 126 dX11_wordNext_15 (by decide) (fun c => absurd c (by decide)) (fun _ => ?_)
  refine a_iconst (v := 0) dX11_wordNext_18 (by decide) ?_
  refine a_istore dX11_wordNext_19 (Nat.le_of_ble_eq_true rfl) (lv2 := [(4, .int 0), (2, .int 17), (3, .int 51), (6, .int 0), (5, .int 0), (1, .int 0), (0, .ref 89)]) rfl ?_
  refine a_ldcB dX11_wordNext_21 rfl ?_
  refine a_iload_n dX11_wordNext_23 rfl rfl ?_
  refine a_iload dX11_wordNext_24 rfl ?_
  refine a_iadd dX11_wordNext_26 ?_
  refine a_st (st2 := [.int 51, .ref 1000005]) (by first | decide +kernel | (refine congrArg (fun z => Value.int z :: [.ref 1000005]) ?_; decide +kernel) | (refine congrArg (fun z => Value.long z :: [.ref 1000005]) ?_; decide +kernel)) ?_
  refine a_callT (As := [.int 51]) (st := []) (i := 1) (bc := 0) (bs := 0) (mc := 0) (ms := 0) dX11_wordNext_27 mw_J0_charAt_5068e rfl ml_X11_194 im_J0_charAt_5068e se_J0_charAt_5068e (by decide) rfl (Nat.le_of_ble_eq_true rfl) (k_charAt1 (fr := fr + 5) (j := 51) (by unfold vp_in; decide +kernel)) (fun v M1 hq => ?_)
  obtain ⟨rfl, hM1⟩ := hq
  rw [hM1]
  clear hM1 M1
  refine a_st (st2 := [.int 115]) (by first | decide +kernel | (refine congrArg (fun z => Value.int z :: []) ?_; decide +kernel) | (refine congrArg (fun z => Value.long z :: []) ?_; decide +kernel)) ?_
  refine a_bipush (v := 32) dX11_wordNext_30 (by decide) ?_
  refine a_icmp_eq 41 dX11_wordNext_32 (by decide) (fun c => absurd c (by decide)) (fun _ => ?_)
  refine a_iinc (v := 1) dX11_wordNext_35 rfl (by decide) (Nat.le_of_ble_eq_true rfl) (lv2 := [(4, .int 1), (2, .int 17), (3, .int 51), (6, .int 0), (5, .int 0), (1, .int 0), (0, .ref 89)]) rfl ?_
  refine a_goto 21 dX11_wordNext_38 (by decide) ?_
  refine a_ldcB dX11_wordNext_21 rfl ?_
  refine a_iload_n dX11_wordNext_23 rfl rfl ?_
  refine a_iload dX11_wordNext_24 rfl ?_
  refine a_iadd dX11_wordNext_26 ?_
  refine a_st (st2 := [.int 52, .ref 1000005]) (by first | decide +kernel | (refine congrArg (fun z => Value.int z :: [.ref 1000005]) ?_; decide +kernel) | (refine congrArg (fun z => Value.long z :: [.ref 1000005]) ?_; decide +kernel)) ?_
  refine a_callT (As := [.int 52]) (st := []) (i := 1) (bc := 0) (bs := 0) (mc := 0) (ms := 0) dX11_wordNext_27 mw_J0_charAt_5068e rfl ml_X11_194 im_J0_charAt_5068e se_J0_charAt_5068e (by decide) rfl (Nat.le_of_ble_eq_true rfl) (k_charAt1 (fr := fr + 5) (j := 52) (by unfold vp_in; decide +kernel)) (fun v M1 hq => ?_)
  obtain ⟨rfl, hM1⟩ := hq
  rw [hM1]
  clear hM1 M1
  refine a_st (st2 := [.int 110]) (by first | decide +kernel | (refine congrArg (fun z => Value.int z :: []) ?_; decide +kernel) | (refine congrArg (fun z => Value.long z :: []) ?_; decide +kernel)) ?_
  refine a_bipush (v := 32) dX11_wordNext_30 (by decide) ?_
  refine a_icmp_eq 41 dX11_wordNext_32 (by decide) (fun c => absurd c (by decide)) (fun _ => ?_)
  refine a_iinc (v := 2) dX11_wordNext_35 rfl (by decide) (Nat.le_of_ble_eq_true rfl) (lv2 := [(4, .int 2), (2, .int 17), (3, .int 51), (6, .int 0), (5, .int 0), (1, .int 0), (0, .ref 89)]) rfl ?_
  refine a_goto 21 dX11_wordNext_38 (by decide) ?_
  refine a_ldcB dX11_wordNext_21 rfl ?_
  refine a_iload_n dX11_wordNext_23 rfl rfl ?_
  refine a_iload dX11_wordNext_24 rfl ?_
  refine a_iadd dX11_wordNext_26 ?_
  refine a_st (st2 := [.int 53, .ref 1000005]) (by first | decide +kernel | (refine congrArg (fun z => Value.int z :: [.ref 1000005]) ?_; decide +kernel) | (refine congrArg (fun z => Value.long z :: [.ref 1000005]) ?_; decide +kernel)) ?_
  refine a_callT (As := [.int 53]) (st := []) (i := 1) (bc := 0) (bs := 0) (mc := 0) (ms := 0) dX11_wordNext_27 mw_J0_charAt_5068e rfl ml_X11_194 im_J0_charAt_5068e se_J0_charAt_5068e (by decide) rfl (Nat.le_of_ble_eq_true rfl) (k_charAt1 (fr := fr + 5) (j := 53) (by unfold vp_in; decide +kernel)) (fun v M1 hq => ?_)
  obtain ⟨rfl, hM1⟩ := hq
  rw [hM1]
  clear hM1 M1
  refine a_st (st2 := [.int 100]) (by first | decide +kernel | (refine congrArg (fun z => Value.int z :: []) ?_; decide +kernel) | (refine congrArg (fun z => Value.long z :: []) ?_; decide +kernel)) ?_
  refine a_bipush (v := 32) dX11_wordNext_30 (by decide) ?_
  refine a_icmp_eq 41 dX11_wordNext_32 (by decide) (fun c => absurd c (by decide)) (fun _ => ?_)
  refine a_iinc (v := 3) dX11_wordNext_35 rfl (by decide) (Nat.le_of_ble_eq_true rfl) (lv2 := [(4, .int 3), (2, .int 17), (3, .int 51), (6, .int 0), (5, .int 0), (1, .int 0), (0, .ref 89)]) rfl ?_
  refine a_goto 21 dX11_wordNext_38 (by decide) ?_
  refine a_ldcB dX11_wordNext_21 rfl ?_
  refine a_iload_n dX11_wordNext_23 rfl rfl ?_
  refine a_iload dX11_wordNext_24 rfl ?_
  refine a_iadd dX11_wordNext_26 ?_
  refine a_st (st2 := [.int 54, .ref 1000005]) (by first | decide +kernel | (refine congrArg (fun z => Value.int z :: [.ref 1000005]) ?_; decide +kernel) | (refine congrArg (fun z => Value.long z :: [.ref 1000005]) ?_; decide +kernel)) ?_
  refine a_callT (As := [.int 54]) (st := []) (i := 1) (bc := 0) (bs := 0) (mc := 0) (ms := 0) dX11_wordNext_27 mw_J0_charAt_5068e rfl ml_X11_194 im_J0_charAt_5068e se_J0_charAt_5068e (by decide) rfl (Nat.le_of_ble_eq_true rfl) (k_charAt1 (fr := fr + 5) (j := 54) (by unfold vp_in; decide +kernel)) (fun v M1 hq => ?_)
  obtain ⟨rfl, hM1⟩ := hq
  rw [hM1]
  clear hM1 M1
  refine a_st (st2 := [.int 32]) (by first | decide +kernel | (refine congrArg (fun z => Value.int z :: []) ?_; decide +kernel) | (refine congrArg (fun z => Value.long z :: []) ?_; decide +kernel)) ?_
  refine a_bipush (v := 32) dX11_wordNext_30 (by decide) ?_
  refine a_icmp_eq 41 dX11_wordNext_32 (by decide) (fun _ => ?_) (fun c => absurd (by decide) c)
  refine a_iload dX11_wordNext_41 rfl ?_
  refine a_iload_n dX11_wordNext_43 rfl rfl ?_
  refine a_icmp_ne 51 dX11_wordNext_44 (by decide) (fun _ => ?_) (fun c => absurd c (by decide))
  refine a_iconst (v := 0) dX11_wordNext_51 (by decide) ?_
  refine a_istore dX11_wordNext_52 (Nat.le_of_ble_eq_true rfl) (lv2 := [(5, .int 0), (4, .int 3), (2, .int 17), (3, .int 51), (6, .int 0), (1, .int 0), (0, .ref 89)]) rfl ?_
  refine a_iconst (v := 0) dX11_wordNext_54 (by decide) ?_
  refine a_istore dX11_wordNext_55 (Nat.le_of_ble_eq_true rfl) (lv2 := [(6, .int 0), (5, .int 0), (4, .int 3), (2, .int 17), (3, .int 51), (1, .int 0), (0, .ref 89)]) rfl ?_
  refine a_iload dX11_wordNext_57 rfl ?_
  refine a_iload dX11_wordNext_59 rfl ?_
  refine a_icmp_ge 106 dX11_wordNext_61 (by decide) (fun c => absurd c (by decide)) (fun _ => ?_)
  refine a_iload dX11_wordNext_64 rfl ?_
  refine a_if_eq 106 dX11_wordNext_66 (by decide) (fun _ => ?_) (fun c => absurd (by decide) c)
  refine a_iload dX11_wordNext_106 rfl ?_
  refine a_if_eq 113 dX11_wordNext_108 (by decide) (fun _ => ?_) (fun c => absurd (by decide) c)
  refine a_iload_n dX11_wordNext_113 rfl rfl ?_
  refine a_iload dX11_wordNext_114 rfl ?_
  refine a_iconst (v := 1) dX11_wordNext_116 (by decide) ?_
  refine a_iadd dX11_wordNext_117 ?_
  refine a_st (st2 := [.int 4, .int 51]) (by first | decide +kernel | (refine congrArg (fun z => Value.int z :: [.int 51]) ?_; decide +kernel) | (refine congrArg (fun z => Value.long z :: [.int 51]) ?_; decide +kernel)) ?_
  refine a_iadd dX11_wordNext_118 ?_
  refine a_st (st2 := [.int 55]) (by first | decide +kernel | (refine congrArg (fun z => Value.int z :: []) ?_; decide +kernel) | (refine congrArg (fun z => Value.long z :: []) ?_; decide +kernel)) ?_
  refine a_istore_n dX11_wordNext_119 rfl (Nat.le_of_ble_eq_true rfl) (lv2 := [(3, .int 55), (6, .int 0), (5, .int 0), (4, .int 3), (2, .int 17), (1, .int 0), (0, .ref 89)]) rfl ?_
  refine a_iinc (v := 18) dX11_wordNext_120 rfl (by decide) (Nat.le_of_ble_eq_true rfl) (lv2 := [(2, .int 18), (3, .int 55), (6, .int 0), (5, .int 0), (4, .int 3), (1, .int 0), (0, .ref 89)]) rfl ?_
  refine a_goto 9 dX11_wordNext_123 (by decide) ?_
  refine a_iload_n dX11_wordNext_9 rfl rfl ?_
  refine a_ldcB dX11_wordNext_10 rfl ?_
  refine a_callT (As := []) (st := [.int 55]) (i := 1) (bc := 0) (bs := 0) (mc := 0) (ms := 0) dX11_wordNext_12 mw_J0_length_8abf5 rfl ml_X11_189 im_J0_length_8abf5 se_J0_length_8abf5 (by decide) rfl (Nat.le_of_ble_eq_true rfl) (k_tlen1 (fr := fr + 7)) (fun v M1 hq => ?_)
  obtain ⟨rfl, hM1⟩ := hq
  rw [hM1]
  clear hM1 M1
  show AW X _ 0 0 15 _ [.int 74, .int 55] _ _
  refine a_icmp_ge 126 dX11_wordNext_15 (by decide) (fun c => absurd c (by decide)) (fun _ => ?_)
  refine a_iconst (v := 0) dX11_wordNext_18 (by decide) ?_
  refine a_istore dX11_wordNext_19 (Nat.le_of_ble_eq_true rfl) (lv2 := [(4, .int 0), (2, .int 18), (3, .int 55), (6, .int 0), (5, .int 0), (1, .int 0), (0, .ref 89)]) rfl ?_
  refine a_ldcB dX11_wordNext_21 rfl ?_
  refine a_iload_n dX11_wordNext_23 rfl rfl ?_
  refine a_iload dX11_wordNext_24 rfl ?_
  refine a_iadd dX11_wordNext_26 ?_
  refine a_st (st2 := [.int 55, .ref 1000005]) (by first | decide +kernel | (refine congrArg (fun z => Value.int z :: [.ref 1000005]) ?_; decide +kernel) | (refine congrArg (fun z => Value.long z :: [.ref 1000005]) ?_; decide +kernel)) ?_
  refine a_callT (As := [.int 55]) (st := []) (i := 1) (bc := 0) (bs := 0) (mc := 0) (ms := 0) dX11_wordNext_27 mw_J0_charAt_5068e rfl ml_X11_194 im_J0_charAt_5068e se_J0_charAt_5068e (by decide) rfl (Nat.le_of_ble_eq_true rfl) (k_charAt1 (fr := fr + 5) (j := 55) (by unfold vp_in; decide +kernel)) (fun v M1 hq => ?_)
  obtain ⟨rfl, hM1⟩ := hq
  rw [hM1]
  clear hM1 M1
  refine a_st (st2 := [.int 105]) (by first | decide +kernel | (refine congrArg (fun z => Value.int z :: []) ?_; decide +kernel) | (refine congrArg (fun z => Value.long z :: []) ?_; decide +kernel)) ?_
  refine a_bipush (v := 32) dX11_wordNext_30 (by decide) ?_
  refine a_icmp_eq 41 dX11_wordNext_32 (by decide) (fun c => absurd c (by decide)) (fun _ => ?_)
  refine a_iinc (v := 1) dX11_wordNext_35 rfl (by decide) (Nat.le_of_ble_eq_true rfl) (lv2 := [(4, .int 1), (2, .int 18), (3, .int 55), (6, .int 0), (5, .int 0), (1, .int 0), (0, .ref 89)]) rfl ?_
  refine a_goto 21 dX11_wordNext_38 (by decide) ?_
  refine a_ldcB dX11_wordNext_21 rfl ?_
  refine a_iload_n dX11_wordNext_23 rfl rfl ?_
  refine a_iload dX11_wordNext_24 rfl ?_
  refine a_iadd dX11_wordNext_26 ?_
  refine a_st (st2 := [.int 56, .ref 1000005]) (by first | decide +kernel | (refine congrArg (fun z => Value.int z :: [.ref 1000005]) ?_; decide +kernel) | (refine congrArg (fun z => Value.long z :: [.ref 1000005]) ?_; decide +kernel)) ?_
  refine a_callT (As := [.int 56]) (st := []) (i := 1) (bc := 0) (bs := 0) (mc := 0) (ms := 0) dX11_wordNext_27 mw_J0_charAt_5068e rfl ml_X11_194 im_J0_charAt_5068e se_J0_charAt_5068e (by decide) rfl (Nat.le_of_ble_eq_true rfl) (k_charAt1 (fr := fr + 5) (j := 56) (by unfold vp_in; decide +kernel)) (fun v M1 hq => ?_)
  obtain ⟨rfl, hM1⟩ := hq
  rw [hM1]
  clear hM1 M1
  refine a_st (st2 := [.int 110]) (by first | decide +kernel | (refine congrArg (fun z => Value.int z :: []) ?_; decide +kernel) | (refine congrArg (fun z => Value.long z :: []) ?_; decide +kernel)) ?_
  refine a_bipush (v := 32) dX11_wordNext_30 (by decide) ?_
  refine a_icmp_eq 41 dX11_wordNext_32 (by decide) (fun c => absurd c (by decide)) (fun _ => ?_)
  refine a_iinc (v := 2) dX11_wordNext_35 rfl (by decide) (Nat.le_of_ble_eq_true rfl) (lv2 := [(4, .int 2), (2, .int 18), (3, .int 55), (6, .int 0), (5, .int 0), (1, .int 0), (0, .ref 89)]) rfl ?_
  refine a_goto 21 dX11_wordNext_38 (by decide) ?_
  refine a_ldcB dX11_wordNext_21 rfl ?_
  refine a_iload_n dX11_wordNext_23 rfl rfl ?_
  refine a_iload dX11_wordNext_24 rfl ?_
  refine a_iadd dX11_wordNext_26 ?_
  refine a_st (st2 := [.int 57, .ref 1000005]) (by first | decide +kernel | (refine congrArg (fun z => Value.int z :: [.ref 1000005]) ?_; decide +kernel) | (refine congrArg (fun z => Value.long z :: [.ref 1000005]) ?_; decide +kernel)) ?_
  refine a_callT (As := [.int 57]) (st := []) (i := 1) (bc := 0) (bs := 0) (mc := 0) (ms := 0) dX11_wordNext_27 mw_J0_charAt_5068e rfl ml_X11_194 im_J0_charAt_5068e se_J0_charAt_5068e (by decide) rfl (Nat.le_of_ble_eq_true rfl) (k_charAt1 (fr := fr + 5) (j := 57) (by unfold vp_in; decide +kernel)) (fun v M1 hq => ?_)
  obtain ⟨rfl, hM1⟩ := hq
  rw [hM1]
  clear hM1 M1
  refine a_st (st2 := [.int 108]) (by first | decide +kernel | (refine congrArg (fun z => Value.int z :: []) ?_; decide +kernel) | (refine congrArg (fun z => Value.long z :: []) ?_; decide +kernel)) ?_
  refine a_bipush (v := 32) dX11_wordNext_30 (by decide) ?_
  refine a_icmp_eq 41 dX11_wordNext_32 (by decide) (fun c => absurd c (by decide)) (fun _ => ?_)
  refine a_iinc (v := 3) dX11_wordNext_35 rfl (by decide) (Nat.le_of_ble_eq_true rfl) (lv2 := [(4, .int 3), (2, .int 18), (3, .int 55), (6, .int 0), (5, .int 0), (1, .int 0), (0, .ref 89)]) rfl ?_
  refine a_goto 21 dX11_wordNext_38 (by decide) ?_
  refine a_ldcB dX11_wordNext_21 rfl ?_
  refine a_iload_n dX11_wordNext_23 rfl rfl ?_
  refine a_iload dX11_wordNext_24 rfl ?_
  refine a_iadd dX11_wordNext_26 ?_
  refine a_st (st2 := [.int 58, .ref 1000005]) (by first | decide +kernel | (refine congrArg (fun z => Value.int z :: [.ref 1000005]) ?_; decide +kernel) | (refine congrArg (fun z => Value.long z :: [.ref 1000005]) ?_; decide +kernel)) ?_
  refine a_callT (As := [.int 58]) (st := []) (i := 1) (bc := 0) (bs := 0) (mc := 0) (ms := 0) dX11_wordNext_27 mw_J0_charAt_5068e rfl ml_X11_194 im_J0_charAt_5068e se_J0_charAt_5068e (by decide) rfl (Nat.le_of_ble_eq_true rfl) (k_charAt1 (fr := fr + 5) (j := 58) (by unfold vp_in; decide +kernel)) (fun v M1 hq => ?_)
  obtain ⟨rfl, hM1⟩ := hq
  rw [hM1]
  clear hM1 M1
  refine a_st (st2 := [.int 32]) (by first | decide +kernel | (refine congrArg (fun z => Value.int z :: []) ?_; decide +kernel) | (refine congrArg (fun z => Value.long z :: []) ?_; decide +kernel)) ?_
  refine a_bipush (v := 32) dX11_wordNext_30 (by decide) ?_
  refine a_icmp_eq 41 dX11_wordNext_32 (by decide) (fun _ => ?_) (fun c => absurd (by decide) c)
  refine a_iload dX11_wordNext_41 rfl ?_
  refine a_iload_n dX11_wordNext_43 rfl rfl ?_
  refine a_icmp_ne 51 dX11_wordNext_44 (by decide) (fun _ => ?_) (fun c => absurd c (by decide))
  refine a_iconst (v := 0) dX11_wordNext_51 (by decide) ?_
  refine a_istore dX11_wordNext_52 (Nat.le_of_ble_eq_true rfl) (lv2 := [(5, .int 0), (4, .int 3), (2, .int 18), (3, .int 55), (6, .int 0), (1, .int 0), (0, .ref 89)]) rfl ?_
  refine a_iconst (v := 0) dX11_wordNext_54 (by decide) ?_
  refine a_istore dX11_wordNext_55 (Nat.le_of_ble_eq_true rfl) (lv2 := [(6, .int 0), (5, .int 0), (4, .int 3), (2, .int 18), (3, .int 55), (1, .int 0), (0, .ref 89)]) rfl ?_
  refine a_iload dX11_wordNext_57 rfl ?_
  refine a_iload dX11_wordNext_59 rfl ?_
  refine a_icmp_ge 106 dX11_wordNext_61 (by decide) (fun c => absurd c (by decide)) (fun _ => ?_)
  refine a_iload dX11_wordNext_64 rfl ?_
  refine a_if_eq 106 dX11_wordNext_66 (by decide) (fun _ => ?_) (fun c => absurd (by decide) c)
  refine a_iload dX11_wordNext_106 rfl ?_
  refine a_if_eq 113 dX11_wordNext_108 (by decide) (fun _ => ?_) (fun c => absurd (by decide) c)
  refine a_iload_n dX11_wordNext_113 rfl rfl ?_
  refine a_iload dX11_wordNext_114 rfl ?_
  refine a_iconst (v := 1) dX11_wordNext_116 (by decide) ?_
  refine a_iadd dX11_wordNext_117 ?_
  refine a_st (st2 := [.int 4, .int 55]) (by first | decide +kernel | (refine congrArg (fun z => Value.int z :: [.int 55]) ?_; decide +kernel) | (refine congrArg (fun z => Value.long z :: [.int 55]) ?_; decide +kernel)) ?_
  refine a_iadd dX11_wordNext_118 ?_
  refine a_st (st2 := [.int 59]) (by first | decide +kernel | (refine congrArg (fun z => Value.int z :: []) ?_; decide +kernel) | (refine congrArg (fun z => Value.long z :: []) ?_; decide +kernel)) ?_
  refine a_istore_n dX11_wordNext_119 rfl (Nat.le_of_ble_eq_true rfl) (lv2 := [(3, .int 59), (6, .int 0), (5, .int 0), (4, .int 3), (2, .int 18), (1, .int 0), (0, .ref 89)]) rfl ?_
  refine a_iinc (v := 19) dX11_wordNext_120 rfl (by decide) (Nat.le_of_ble_eq_true rfl) (lv2 := [(2, .int 19), (3, .int 59), (6, .int 0), (5, .int 0), (4, .int 3), (1, .int 0), (0, .ref 89)]) rfl ?_
  refine a_goto 9 dX11_wordNext_123 (by decide) ?_
  refine a_iload_n dX11_wordNext_9 rfl rfl ?_
  refine a_ldcB dX11_wordNext_10 rfl ?_
  refine a_callT (As := []) (st := [.int 59]) (i := 1) (bc := 0) (bs := 0) (mc := 0) (ms := 0) dX11_wordNext_12 mw_J0_length_8abf5 rfl ml_X11_189 im_J0_length_8abf5 se_J0_length_8abf5 (by decide) rfl (Nat.le_of_ble_eq_true rfl) (k_tlen1 (fr := fr + 7)) (fun v M1 hq => ?_)
  obtain ⟨rfl, hM1⟩ := hq
  rw [hM1]
  clear hM1 M1
  show AW X _ 0 0 15 _ [.int 74, .int 59] _ _
  refine a_icmp_ge 126 dX11_wordNext_15 (by decide) (fun c => absurd c (by decide)) (fun _ => ?_)
  refine a_iconst (v := 0) dX11_wordNext_18 (by decide) ?_
  refine a_istore dX11_wordNext_19 (Nat.le_of_ble_eq_true rfl) (lv2 := [(4, .int 0), (2, .int 19), (3, .int 59), (6, .int 0), (5, .int 0), (1, .int 0), (0, .ref 89)]) rfl ?_
  refine a_ldcB dX11_wordNext_21 rfl ?_
  refine a_iload_n dX11_wordNext_23 rfl rfl ?_
  refine a_iload dX11_wordNext_24 rfl ?_
  refine a_iadd dX11_wordNext_26 ?_
  refine a_st (st2 := [.int 59, .ref 1000005]) (by first | decide +kernel | (refine congrArg (fun z => Value.int z :: [.ref 1000005]) ?_; decide +kernel) | (refine congrArg (fun z => Value.long z :: [.ref 1000005]) ?_; decide +kernel)) ?_
  refine a_callT (As := [.int 59]) (st := []) (i := 1) (bc := 0) (bs := 0) (mc := 0) (ms := 0) dX11_wordNext_27 mw_J0_charAt_5068e rfl ml_X11_194 im_J0_charAt_5068e se_J0_charAt_5068e (by decide) rfl (Nat.le_of_ble_eq_true rfl) (k_charAt1 (fr := fr + 5) (j := 59) (by unfold vp_in; decide +kernel)) (fun v M1 hq => ?_)
  obtain ⟨rfl, hM1⟩ := hq
  rw [hM1]
  clear hM1 M1
  refine a_st (st2 := [.int 105]) (by first | decide +kernel | (refine congrArg (fun z => Value.int z :: []) ?_; decide +kernel) | (refine congrArg (fun z => Value.long z :: []) ?_; decide +kernel)) ?_
  refine a_bipush (v := 32) dX11_wordNext_30 (by decide) ?_
  refine a_icmp_eq 41 dX11_wordNext_32 (by decide) (fun c => absurd c (by decide)) (fun _ => ?_)
  refine a_iinc (v := 1) dX11_wordNext_35 rfl (by decide) (Nat.le_of_ble_eq_true rfl) (lv2 := [(4, .int 1), (2, .int 19), (3, .int 59), (6, .int 0), (5, .int 0), (1, .int 0), (0, .ref 89)]) rfl ?_
  refine a_goto 21 dX11_wordNext_38 (by decide) ?_
  refine a_ldcB dX11_wordNext_21 rfl ?_
  refine a_iload_n dX11_wordNext_23 rfl rfl ?_
  refine a_iload dX11_wordNext_24 rfl ?_
  refine a_iadd dX11_wordNext_26 ?_
  refine a_st (st2 := [.int 60, .ref 1000005]) (by first | decide +kernel | (refine congrArg (fun z => Value.int z :: [.ref 1000005]) ?_; decide +kernel) | (refine congrArg (fun z => Value.long z :: [.ref 1000005]) ?_; decide +kernel)) ?_
  refine a_callT (As := [.int 60]) (st := []) (i := 1) (bc := 0) (bs := 0) (mc := 0) (ms := 0) dX11_wordNext_27 mw_J0_charAt_5068e rfl ml_X11_194 im_J0_charAt_5068e se_J0_charAt_5068e (by decide) rfl (Nat.le_of_ble_eq_true rfl) (k_charAt1 (fr := fr + 5) (j := 60) (by unfold vp_in; decide +kernel)) (fun v M1 hq => ?_)
  obtain ⟨rfl, hM1⟩ := hq
  rw [hM1]
  clear hM1 M1
  refine a_st (st2 := [.int 110]) (by first | decide +kernel | (refine congrArg (fun z => Value.int z :: []) ?_; decide +kernel) | (refine congrArg (fun z => Value.long z :: []) ?_; decide +kernel)) ?_
  refine a_bipush (v := 32) dX11_wordNext_30 (by decide) ?_
  refine a_icmp_eq 41 dX11_wordNext_32 (by decide) (fun c => absurd c (by decide)) (fun _ => ?_)
  refine a_iinc (v := 2) dX11_wordNext_35 rfl (by decide) (Nat.le_of_ble_eq_true rfl) (lv2 := [(4, .int 2), (2, .int 19), (3, .int 59), (6, .int 0), (5, .int 0), (1, .int 0), (0, .ref 89)]) rfl ?_
  refine a_goto 21 dX11_wordNext_38 (by decide) ?_
  refine a_ldcB dX11_wordNext_21 rfl ?_
  refine a_iload_n dX11_wordNext_23 rfl rfl ?_
  refine a_iload dX11_wordNext_24 rfl ?_
  refine a_iadd dX11_wordNext_26 ?_
  refine a_st (st2 := [.int 61, .ref 1000005]) (by first | decide +kernel | (refine congrArg (fun z => Value.int z :: [.ref 1000005]) ?_; decide +kernel) | (refine congrArg (fun z => Value.long z :: [.ref 1000005]) ?_; decide +kernel)) ?_
  refine a_callT (As := [.int 61]) (st := []) (i := 1) (bc := 0) (bs := 0) (mc := 0) (ms := 0) dX11_wordNext_27 mw_J0_charAt_5068e rfl ml_X11_194 im_J0_charAt_5068e se_J0_charAt_5068e (by decide) rfl (Nat.le_of_ble_eq_true rfl) (k_charAt1 (fr := fr + 5) (j := 61) (by unfold vp_in; decide +kernel)) (fun v M1 hq => ?_)
  obtain ⟨rfl, hM1⟩ := hq
  rw [hM1]
  clear hM1 M1
  refine a_st (st2 := [.int 114]) (by first | decide +kernel | (refine congrArg (fun z => Value.int z :: []) ?_; decide +kernel) | (refine congrArg (fun z => Value.long z :: []) ?_; decide +kernel)) ?_
  refine a_bipush (v := 32) dX11_wordNext_30 (by decide) ?_
  refine a_icmp_eq 41 dX11_wordNext_32 (by decide) (fun c => absurd c (by decide)) (fun _ => ?_)
  refine a_iinc (v := 3) dX11_wordNext_35 rfl (by decide) (Nat.le_of_ble_eq_true rfl) (lv2 := [(4, .int 3), (2, .int 19), (3, .int 59), (6, .int 0), (5, .int 0), (1, .int 0), (0, .ref 89)]) rfl ?_
  refine a_goto 21 dX11_wordNext_38 (by decide) ?_
  refine a_ldcB dX11_wordNext_21 rfl ?_
  refine a_iload_n dX11_wordNext_23 rfl rfl ?_
  refine a_iload dX11_wordNext_24 rfl ?_
  refine a_iadd dX11_wordNext_26 ?_
  refine a_st (st2 := [.int 62, .ref 1000005]) (by first | decide +kernel | (refine congrArg (fun z => Value.int z :: [.ref 1000005]) ?_; decide +kernel) | (refine congrArg (fun z => Value.long z :: [.ref 1000005]) ?_; decide +kernel)) ?_
  refine a_callT (As := [.int 62]) (st := []) (i := 1) (bc := 0) (bs := 0) (mc := 0) (ms := 0) dX11_wordNext_27 mw_J0_charAt_5068e rfl ml_X11_194 im_J0_charAt_5068e se_J0_charAt_5068e (by decide) rfl (Nat.le_of_ble_eq_true rfl) (k_charAt1 (fr := fr + 5) (j := 62) (by unfold vp_in; decide +kernel)) (fun v M1 hq => ?_)
  obtain ⟨rfl, hM1⟩ := hq
  rw [hM1]
  clear hM1 M1
  refine a_st (st2 := [.int 32]) (by first | decide +kernel | (refine congrArg (fun z => Value.int z :: []) ?_; decide +kernel) | (refine congrArg (fun z => Value.long z :: []) ?_; decide +kernel)) ?_
  refine a_bipush (v := 32) dX11_wordNext_30 (by decide) ?_
  refine a_icmp_eq 41 dX11_wordNext_32 (by decide) (fun _ => ?_) (fun c => absurd (by decide) c)
  refine a_iload dX11_wordNext_41 rfl ?_
  refine a_iload_n dX11_wordNext_43 rfl rfl ?_
  refine a_icmp_ne 51 dX11_wordNext_44 (by decide) (fun _ => ?_) (fun c => absurd c (by decide))
  refine a_iconst (v := 0) dX11_wordNext_51 (by decide) ?_
  refine a_istore dX11_wordNext_52 (Nat.le_of_ble_eq_true rfl) (lv2 := [(5, .int 0), (4, .int 3), (2, .int 19), (3, .int 59), (6, .int 0), (1, .int 0), (0, .ref 89)]) rfl ?_
  refine a_iconst (v := 0) dX11_wordNext_54 (by decide) ?_
  refine a_istore dX11_wordNext_55 (Nat.le_of_ble_eq_true rfl) (lv2 := [(6, .int 0), (5, .int 0), (4, .int 3), (2, .int 19), (3, .int 59), (1, .int 0), (0, .ref 89)]) rfl ?_
  refine a_iload dX11_wordNext_57 rfl ?_
  refine a_iload dX11_wordNext_59 rfl ?_
  refine a_icmp_ge 106 dX11_wordNext_61 (by decide) (fun c => absurd c (by decide)) (fun _ => ?_)
  refine a_iload dX11_wordNext_64 rfl ?_
  refine a_if_eq 106 dX11_wordNext_66 (by decide) (fun _ => ?_) (fun c => absurd (by decide) c)
  refine a_iload dX11_wordNext_106 rfl ?_
  refine a_if_eq 113 dX11_wordNext_108 (by decide) (fun _ => ?_) (fun c => absurd (by decide) c)
  refine a_iload_n dX11_wordNext_113 rfl rfl ?_
  refine a_iload dX11_wordNext_114 rfl ?_
  refine a_iconst (v := 1) dX11_wordNext_116 (by decide) ?_
  refine a_iadd dX11_wordNext_117 ?_
  refine a_st (st2 := [.int 4, .int 59]) (by first | decide +kernel | (refine congrArg (fun z => Value.int z :: [.int 59]) ?_; decide +kernel) | (refine congrArg (fun z => Value.long z :: [.int 59]) ?_; decide +kernel)) ?_
  refine a_iadd dX11_wordNext_118 ?_
  refine a_st (st2 := [.int 63]) (by first | decide +kernel | (refine congrArg (fun z => Value.int z :: []) ?_; decide +kernel) | (refine congrArg (fun z => Value.long z :: []) ?_; decide +kernel)) ?_
  refine a_istore_n dX11_wordNext_119 rfl (Nat.le_of_ble_eq_true rfl) (lv2 := [(3, .int 63), (6, .int 0), (5, .int 0), (4, .int 3), (2, .int 19), (1, .int 0), (0, .ref 89)]) rfl ?_
  refine a_iinc (v := 20) dX11_wordNext_120 rfl (by decide) (Nat.le_of_ble_eq_true rfl) (lv2 := [(2, .int 20), (3, .int 63), (6, .int 0), (5, .int 0), (4, .int 3), (1, .int 0), (0, .ref 89)]) rfl ?_
  refine a_goto 9 dX11_wordNext_123 (by decide) ?_
  refine a_iload_n dX11_wordNext_9 rfl rfl ?_
  refine a_ldcB dX11_wordNext_10 rfl ?_
  refine a_callT (As := []) (st := [.int 63]) (i := 1) (bc := 0) (bs := 0) (mc := 0) (ms := 0) dX11_wordNext_12 mw_J0_length_8abf5 rfl ml_X11_189 im_J0_length_8abf5 se_J0_length_8abf5 (by decide) rfl (Nat.le_of_ble_eq_true rfl) (k_tlen1 (fr := fr + 7)) (fun v M1 hq => ?_)
  obtain ⟨rfl, hM1⟩ := hq
  rw [hM1]
  clear hM1 M1
  show AW X _ 0 0 15 _ [.int 74, .int 63] _ _
  refine a_icmp_ge 126 dX11_wordNext_15 (by decide) (fun c => absurd c (by decide)) (fun _ => ?_)
  refine a_iconst (v := 0) dX11_wordNext_18 (by decide) ?_
  refine a_istore dX11_wordNext_19 (Nat.le_of_ble_eq_true rfl) (lv2 := [(4, .int 0), (2, .int 20), (3, .int 63), (6, .int 0), (5, .int 0), (1, .int 0), (0, .ref 89)]) rfl ?_
  refine a_ldcB dX11_wordNext_21 rfl ?_
  refine a_iload_n dX11_wordNext_23 rfl rfl ?_
  refine a_iload dX11_wordNext_24 rfl ?_
  refine a_iadd dX11_wordNext_26 ?_
  refine a_st (st2 := [.int 63, .ref 1000005]) (by first | decide +kernel | (refine congrArg (fun z => Value.int z :: [.ref 1000005]) ?_; decide +kernel) | (refine congrArg (fun z => Value.long z :: [.ref 1000005]) ?_; decide +kernel)) ?_
  refine a_callT (As := [.int 63]) (st := []) (i := 1) (bc := 0) (bs := 0) (mc := 0) (ms := 0) dX11_wordNext_27 mw_J0_charAt_5068e rfl ml_X11_194 im_J0_charAt_5068e se_J0_charAt_5068e (by decide) rfl (Nat.le_of_ble_eq_true rfl) (k_charAt1 (fr := fr + 5) (j := 63) (by unfold vp_in; decide +kernel)) (fun v M1 hq => ?_)
  obtain ⟨rfl, hM1⟩ := hq
  rw [hM1]
  clear hM1 M1
  refine a_st (st2 := [.int 99]) (by first | decide +kernel | (refine congrArg (fun z => Value.int z :: []) ?_; decide +kernel) | (refine congrArg (fun z => Value.long z :: []) ?_; decide +kernel)) ?_
  refine a_bipush (v := 32) dX11_wordNext_30 (by decide) ?_
  refine a_icmp_eq 41 dX11_wordNext_32 (by decide) (fun c => absurd c (by decide)) (fun _ => ?_)
  refine a_iinc (v := 1) dX11_wordNext_35 rfl (by decide) (Nat.le_of_ble_eq_true rfl) (lv2 := [(4, .int 1), (2, .int 20), (3, .int 63), (6, .int 0), (5, .int 0), (1, .int 0), (0, .ref 89)]) rfl ?_
  refine a_goto 21 dX11_wordNext_38 (by decide) ?_
  refine a_ldcB dX11_wordNext_21 rfl ?_
  refine a_iload_n dX11_wordNext_23 rfl rfl ?_
  refine a_iload dX11_wordNext_24 rfl ?_
  refine a_iadd dX11_wordNext_26 ?_
  refine a_st (st2 := [.int 64, .ref 1000005]) (by first | decide +kernel | (refine congrArg (fun z => Value.int z :: [.ref 1000005]) ?_; decide +kernel) | (refine congrArg (fun z => Value.long z :: [.ref 1000005]) ?_; decide +kernel)) ?_
  refine a_callT (As := [.int 64]) (st := []) (i := 1) (bc := 0) (bs := 0) (mc := 0) (ms := 0) dX11_wordNext_27 mw_J0_charAt_5068e rfl ml_X11_194 im_J0_charAt_5068e se_J0_charAt_5068e (by decide) rfl (Nat.le_of_ble_eq_true rfl) (k_charAt1 (fr := fr + 5) (j := 64) (by unfold vp_in; decide +kernel)) (fun v M1 hq => ?_)
  obtain ⟨rfl, hM1⟩ := hq
  rw [hM1]
  clear hM1 M1
  refine a_st (st2 := [.int 97]) (by first | decide +kernel | (refine congrArg (fun z => Value.int z :: []) ?_; decide +kernel) | (refine congrArg (fun z => Value.long z :: []) ?_; decide +kernel)) ?_
  refine a_bipush (v := 32) dX11_wordNext_30 (by decide) ?_
  refine a_icmp_eq 41 dX11_wordNext_32 (by decide) (fun c => absurd c (by decide)) (fun _ => ?_)
  refine a_iinc (v := 2) dX11_wordNext_35 rfl (by decide) (Nat.le_of_ble_eq_true rfl) (lv2 := [(4, .int 2), (2, .int 20), (3, .int 63), (6, .int 0), (5, .int 0), (1, .int 0), (0, .ref 89)]) rfl ?_
  refine a_goto 21 dX11_wordNext_38 (by decide) ?_
  refine a_ldcB dX11_wordNext_21 rfl ?_
  refine a_iload_n dX11_wordNext_23 rfl rfl ?_
  refine a_iload dX11_wordNext_24 rfl ?_
  refine a_iadd dX11_wordNext_26 ?_
  refine a_st (st2 := [.int 65, .ref 1000005]) (by first | decide +kernel | (refine congrArg (fun z => Value.int z :: [.ref 1000005]) ?_; decide +kernel) | (refine congrArg (fun z => Value.long z :: [.ref 1000005]) ?_; decide +kernel)) ?_
  refine a_callT (As := [.int 65]) (st := []) (i := 1) (bc := 0) (bs := 0) (mc := 0) (ms := 0) dX11_wordNext_27 mw_J0_charAt_5068e rfl ml_X11_194 im_J0_charAt_5068e se_J0_charAt_5068e (by decide) rfl (Nat.le_of_ble_eq_true rfl) (k_charAt1 (fr := fr + 5) (j := 65) (by unfold vp_in; decide +kernel)) (fun v M1 hq => ?_)
  obtain ⟨rfl, hM1⟩ := hq
  rw [hM1]
  clear hM1 M1
  refine a_st (st2 := [.int 115]) (by first | decide +kernel | (refine congrArg (fun z => Value.int z :: []) ?_; decide +kernel) | (refine congrArg (fun z => Value.long z :: []) ?_; decide +kernel)) ?_
  refine a_bipush (v := 32) dX11_wordNext_30 (by decide) ?_
  refine a_icmp_eq 41 dX11_wordNext_32 (by decide) (fun c => absurd c (by decide)) (fun _ => ?_)
  refine a_iinc (v := 3) dX11_wordNext_35 rfl (by decide) (Nat.le_of_ble_eq_true rfl) (lv2 := [(4, .int 3), (2, .int 20), (3, .int 63), (6, .int 0), (5, .int 0), (1, .int 0), (0, .ref 89)]) rfl ?_
  refine a_goto 21 dX11_wordNext_38 (by decide) ?_
  refine a_ldcB dX11_wordNext_21 rfl ?_
  refine a_iload_n dX11_wordNext_23 rfl rfl ?_
  refine a_iload dX11_wordNext_24 rfl ?_
  refine a_iadd dX11_wordNext_26 ?_
  refine a_st (st2 := [.int 66, .ref 1000005]) (by first | decide +kernel | (refine congrArg (fun z => Value.int z :: [.ref 1000005]) ?_; decide +kernel) | (refine congrArg (fun z => Value.long z :: [.ref 1000005]) ?_; decide +kernel)) ?_
  refine a_callT (As := [.int 66]) (st := []) (i := 1) (bc := 0) (bs := 0) (mc := 0) (ms := 0) dX11_wordNext_27 mw_J0_charAt_5068e rfl ml_X11_194 im_J0_charAt_5068e se_J0_charAt_5068e (by decide) rfl (Nat.le_of_ble_eq_true rfl) (k_charAt1 (fr := fr + 5) (j := 66) (by unfold vp_in; decide +kernel)) (fun v M1 hq => ?_)
  obtain ⟨rfl, hM1⟩ := hq
  rw [hM1]
  clear hM1 M1
  refine a_st (st2 := [.int 101]) (by first | decide +kernel | (refine congrArg (fun z => Value.int z :: []) ?_; decide +kernel) | (refine congrArg (fun z => Value.long z :: []) ?_; decide +kernel)) ?_
  refine a_bipush (v := 32) dX11_wordNext_30 (by decide) ?_
  refine a_icmp_eq 41 dX11_wordNext_32 (by decide) (fun c => absurd c (by decide)) (fun _ => ?_)
  refine a_iinc (v := 4) dX11_wordNext_35 rfl (by decide) (Nat.le_of_ble_eq_true rfl) (lv2 := [(4, .int 4), (2, .int 20), (3, .int 63), (6, .int 0), (5, .int 0), (1, .int 0), (0, .ref 89)]) rfl ?_
  refine a_goto 21 dX11_wordNext_38 (by decide) ?_
  refine a_ldcB dX11_wordNext_21 rfl ?_
  refine a_iload_n dX11_wordNext_23 rfl rfl ?_
  refine a_iload dX11_wordNext_24 rfl ?_
  refine a_iadd dX11_wordNext_26 ?_
  refine a_st (st2 := [.int 67, .ref 1000005]) (by first | decide +kernel | (refine congrArg (fun z => Value.int z :: [.ref 1000005]) ?_; decide +kernel) | (refine congrArg (fun z => Value.long z :: [.ref 1000005]) ?_; decide +kernel)) ?_
  refine a_callT (As := [.int 67]) (st := []) (i := 1) (bc := 0) (bs := 0) (mc := 0) (ms := 0) dX11_wordNext_27 mw_J0_charAt_5068e rfl ml_X11_194 im_J0_charAt_5068e se_J0_charAt_5068e (by decide) rfl (Nat.le_of_ble_eq_true rfl) (k_charAt1 (fr := fr + 5) (j := 67) (by unfold vp_in; decide +kernel)) (fun v M1 hq => ?_)
  obtain ⟨rfl, hM1⟩ := hq
  rw [hM1]
  clear hM1 M1
  refine a_st (st2 := [.int 32]) (by first | decide +kernel | (refine congrArg (fun z => Value.int z :: []) ?_; decide +kernel) | (refine congrArg (fun z => Value.long z :: []) ?_; decide +kernel)) ?_
  refine a_bipush (v := 32) dX11_wordNext_30 (by decide) ?_
  refine a_icmp_eq 41 dX11_wordNext_32 (by decide) (fun _ => ?_) (fun c => absurd (by decide) c)
  refine a_iload dX11_wordNext_41 rfl ?_
  refine a_iload_n dX11_wordNext_43 rfl rfl ?_
  refine a_icmp_ne 51 dX11_wordNext_44 (by decide) (fun _ => ?_) (fun c => absurd c (by decide))
  refine a_iconst (v := 0) dX11_wordNext_51 (by decide) ?_
  refine a_istore dX11_wordNext_52 (Nat.le_of_ble_eq_true rfl) (lv2 := [(5, .int 0), (4, .int 4), (2, .int 20), (3, .int 63), (6, .int 0), (1, .int 0), (0, .ref 89)]) rfl ?_
  refine a_iconst (v := 0) dX11_wordNext_54 (by decide) ?_
  refine a_istore dX11_wordNext_55 (Nat.le_of_ble_eq_true rfl) (lv2 := [(6, .int 0), (5, .int 0), (4, .int 4), (2, .int 20), (3, .int 63), (1, .int 0), (0, .ref 89)]) rfl ?_
  refine a_iload dX11_wordNext_57 rfl ?_
  refine a_iload dX11_wordNext_59 rfl ?_
  refine a_icmp_ge 106 dX11_wordNext_61 (by decide) (fun c => absurd c (by decide)) (fun _ => ?_)
  refine a_iload dX11_wordNext_64 rfl ?_
  refine a_if_eq 106 dX11_wordNext_66 (by decide) (fun _ => ?_) (fun c => absurd (by decide) c)
  refine a_iload dX11_wordNext_106 rfl ?_
  refine a_if_eq 113 dX11_wordNext_108 (by decide) (fun _ => ?_) (fun c => absurd (by decide) c)
  refine a_iload_n dX11_wordNext_113 rfl rfl ?_
  refine a_iload dX11_wordNext_114 rfl ?_
  refine a_iconst (v := 1) dX11_wordNext_116 (by decide) ?_
  refine a_iadd dX11_wordNext_117 ?_
  refine a_st (st2 := [.int 5, .int 63]) (by first | decide +kernel | (refine congrArg (fun z => Value.int z :: [.int 63]) ?_; decide +kernel) | (refine congrArg (fun z => Value.long z :: [.int 63]) ?_; decide +kernel)) ?_
  refine a_iadd dX11_wordNext_118 ?_
  refine a_st (st2 := [.int 68]) (by first | decide +kernel | (refine congrArg (fun z => Value.int z :: []) ?_; decide +kernel) | (refine congrArg (fun z => Value.long z :: []) ?_; decide +kernel)) ?_
  refine a_istore_n dX11_wordNext_119 rfl (Nat.le_of_ble_eq_true rfl) (lv2 := [(3, .int 68), (6, .int 0), (5, .int 0), (4, .int 4), (2, .int 20), (1, .int 0), (0, .ref 89)]) rfl ?_
  refine a_iinc (v := 21) dX11_wordNext_120 rfl (by decide) (Nat.le_of_ble_eq_true rfl) (lv2 := [(2, .int 21), (3, .int 68), (6, .int 0), (5, .int 0), (4, .int 4), (1, .int 0), (0, .ref 89)]) rfl ?_
  refine a_goto 9 dX11_wordNext_123 (by decide) ?_
  refine a_iload_n dX11_wordNext_9 rfl rfl ?_
  refine a_ldcB dX11_wordNext_10 rfl ?_
  refine a_callT (As := []) (st := [.int 68]) (i := 1) (bc := 0) (bs := 0) (mc := 0) (ms := 0) dX11_wordNext_12 mw_J0_length_8abf5 rfl ml_X11_189 im_J0_length_8abf5 se_J0_length_8abf5 (by decide) rfl (Nat.le_of_ble_eq_true rfl) (k_tlen1 (fr := fr + 7)) (fun v M1 hq => ?_)
  obtain ⟨rfl, hM1⟩ := hq
  rw [hM1]
  clear hM1 M1
  show AW X _ 0 0 15 _ [.int 74, .int 68] _ _
  refine a_icmp_ge 126 dX11_wordNext_15 (by decide) (fun c => absurd c (by decide)) (fun _ => ?_)
  refine a_iconst (v := 0) dX11_wordNext_18 (by decide) ?_
  refine a_istore dX11_wordNext_19 (Nat.le_of_ble_eq_true rfl) (lv2 := [(4, .int 0), (2, .int 21), (3, .int 68), (6, .int 0), (5, .int 0), (1, .int 0), (0, .ref 89)]) rfl ?_
  refine a_ldcB dX11_wordNext_21 rfl ?_
  refine a_iload_n dX11_wordNext_23 rfl rfl ?_
  refine a_iload dX11_wordNext_24 rfl ?_
  refine a_iadd dX11_wordNext_26 ?_
  refine a_st (st2 := [.int 68, .ref 1000005]) (by first | decide +kernel | (refine congrArg (fun z => Value.int z :: [.ref 1000005]) ?_; decide +kernel) | (refine congrArg (fun z => Value.long z :: [.ref 1000005]) ?_; decide +kernel)) ?_
  refine a_callT (As := [.int 68]) (st := []) (i := 1) (bc := 0) (bs := 0) (mc := 0) (ms := 0) dX11_wordNext_27 mw_J0_charAt_5068e rfl ml_X11_194 im_J0_charAt_5068e se_J0_charAt_5068e (by decide) rfl (Nat.le_of_ble_eq_true rfl) (k_charAt1 (fr := fr + 5) (j := 68) (by unfold vp_in; decide +kernel)) (fun v M1 hq => ?_)
  obtain ⟨rfl, hM1⟩ := hq
  rw [hM1]
  clear hM1 M1
  refine a_st (st2 := [.int 97]) (by first | decide +kernel | (refine congrArg (fun z => Value.int z :: []) ?_; decide +kernel) | (refine congrArg (fun z => Value.long z :: []) ?_; decide +kernel)) ?_
  refine a_bipush (v := 32) dX11_wordNext_30 (by decide) ?_
  refine a_icmp_eq 41 dX11_wordNext_32 (by decide) (fun c => absurd c (by decide)) (fun _ => ?_)
  refine a_iinc (v := 1) dX11_wordNext_35 rfl (by decide) (Nat.le_of_ble_eq_true rfl) (lv2 := [(4, .int 1), (2, .int 21), (3, .int 68), (6, .int 0), (5, .int 0), (1, .int 0), (0, .ref 89)]) rfl ?_
  refine a_goto 21 dX11_wordNext_38 (by decide) ?_
  refine a_ldcB dX11_wordNext_21 rfl ?_
  refine a_iload_n dX11_wordNext_23 rfl rfl ?_
  refine a_iload dX11_wordNext_24 rfl ?_
  refine a_iadd dX11_wordNext_26 ?_
  refine a_st (st2 := [.int 69, .ref 1000005]) (by first | decide +kernel | (refine congrArg (fun z => Value.int z :: [.ref 1000005]) ?_; decide +kernel) | (refine congrArg (fun z => Value.long z :: [.ref 1000005]) ?_; decide +kernel)) ?_
  refine a_callT (As := [.int 69]) (st := []) (i := 1) (bc := 0) (bs := 0) (mc := 0) (ms := 0) dX11_wordNext_27 mw_J0_charAt_5068e rfl ml_X11_194 im_J0_charAt_5068e se_J0_charAt_5068e (by decide) rfl (Nat.le_of_ble_eq_true rfl) (k_charAt1 (fr := fr + 5) (j := 69) (by unfold vp_in; decide +kernel)) (fun v M1 hq => ?_)
  obtain ⟨rfl, hM1⟩ := hq
  rw [hM1]
  clear hM1 M1
  refine a_st (st2 := [.int 98]) (by first | decide +kernel | (refine congrArg (fun z => Value.int z :: []) ?_; decide +kernel) | (refine congrArg (fun z => Value.long z :: []) ?_; decide +kernel)) ?_
  refine a_bipush (v := 32) dX11_wordNext_30 (by decide) ?_
  refine a_icmp_eq 41 dX11_wordNext_32 (by decide) (fun c => absurd c (by decide)) (fun _ => ?_)
  refine a_iinc (v := 2) dX11_wordNext_35 rfl (by decide) (Nat.le_of_ble_eq_true rfl) (lv2 := [(4, .int 2), (2, .int 21), (3, .int 68), (6, .int 0), (5, .int 0), (1, .int 0), (0, .ref 89)]) rfl ?_
  refine a_goto 21 dX11_wordNext_38 (by decide) ?_
  refine a_ldcB dX11_wordNext_21 rfl ?_
  refine a_iload_n dX11_wordNext_23 rfl rfl ?_
  refine a_iload dX11_wordNext_24 rfl ?_
  refine a_iadd dX11_wordNext_26 ?_
  refine a_st (st2 := [.int 70, .ref 1000005]) (by first | decide +kernel | (refine congrArg (fun z => Value.int z :: [.ref 1000005]) ?_; decide +kernel) | (refine congrArg (fun z => Value.long z :: [.ref 1000005]) ?_; decide +kernel)) ?_
  refine a_callT (As := [.int 70]) (st := []) (i := 1) (bc := 0) (bs := 0) (mc := 0) (ms := 0) dX11_wordNext_27 mw_J0_charAt_5068e rfl ml_X11_194 im_J0_charAt_5068e se_J0_charAt_5068e (by decide) rfl (Nat.le_of_ble_eq_true rfl) (k_charAt1 (fr := fr + 5) (j := 70) (by unfold vp_in; decide +kernel)) (fun v M1 hq => ?_)
  obtain ⟨rfl, hM1⟩ := hq
  rw [hM1]
  clear hM1 M1
  refine a_st (st2 := [.int 111]) (by first | decide +kernel | (refine congrArg (fun z => Value.int z :: []) ?_; decide +kernel) | (refine congrArg (fun z => Value.long z :: []) ?_; decide +kernel)) ?_
  refine a_bipush (v := 32) dX11_wordNext_30 (by decide) ?_
  refine a_icmp_eq 41 dX11_wordNext_32 (by decide) (fun c => absurd c (by decide)) (fun _ => ?_)
  refine a_iinc (v := 3) dX11_wordNext_35 rfl (by decide) (Nat.le_of_ble_eq_true rfl) (lv2 := [(4, .int 3), (2, .int 21), (3, .int 68), (6, .int 0), (5, .int 0), (1, .int 0), (0, .ref 89)]) rfl ?_
  refine a_goto 21 dX11_wordNext_38 (by decide) ?_
  refine a_ldcB dX11_wordNext_21 rfl ?_
  refine a_iload_n dX11_wordNext_23 rfl rfl ?_
  refine a_iload dX11_wordNext_24 rfl ?_
  refine a_iadd dX11_wordNext_26 ?_
  refine a_st (st2 := [.int 71, .ref 1000005]) (by first | decide +kernel | (refine congrArg (fun z => Value.int z :: [.ref 1000005]) ?_; decide +kernel) | (refine congrArg (fun z => Value.long z :: [.ref 1000005]) ?_; decide +kernel)) ?_
  refine a_callT (As := [.int 71]) (st := []) (i := 1) (bc := 0) (bs := 0) (mc := 0) (ms := 0) dX11_wordNext_27 mw_J0_charAt_5068e rfl ml_X11_194 im_J0_charAt_5068e se_J0_charAt_5068e (by decide) rfl (Nat.le_of_ble_eq_true rfl) (k_charAt1 (fr := fr + 5) (j := 71) (by unfold vp_in; decide +kernel)) (fun v M1 hq => ?_)
  obtain ⟨rfl, hM1⟩ := hq
  rw [hM1]
  clear hM1 M1
  refine a_st (st2 := [.int 114]) (by first | decide +kernel | (refine congrArg (fun z => Value.int z :: []) ?_; decide +kernel) | (refine congrArg (fun z => Value.long z :: []) ?_; decide +kernel)) ?_
  refine a_bipush (v := 32) dX11_wordNext_30 (by decide) ?_
  refine a_icmp_eq 41 dX11_wordNext_32 (by decide) (fun c => absurd c (by decide)) (fun _ => ?_)
  refine a_iinc (v := 4) dX11_wordNext_35 rfl (by decide) (Nat.le_of_ble_eq_true rfl) (lv2 := [(4, .int 4), (2, .int 21), (3, .int 68), (6, .int 0), (5, .int 0), (1, .int 0), (0, .ref 89)]) rfl ?_
  refine a_goto 21 dX11_wordNext_38 (by decide) ?_
  refine a_ldcB dX11_wordNext_21 rfl ?_
  refine a_iload_n dX11_wordNext_23 rfl rfl ?_
  refine a_iload dX11_wordNext_24 rfl ?_
  refine a_iadd dX11_wordNext_26 ?_
  refine a_st (st2 := [.int 72, .ref 1000005]) (by first | decide +kernel | (refine congrArg (fun z => Value.int z :: [.ref 1000005]) ?_; decide +kernel) | (refine congrArg (fun z => Value.long z :: [.ref 1000005]) ?_; decide +kernel)) ?_
  refine a_callT (As := [.int 72]) (st := []) (i := 1) (bc := 0) (bs := 0) (mc := 0) (ms := 0) dX11_wordNext_27 mw_J0_charAt_5068e rfl ml_X11_194 im_J0_charAt_5068e se_J0_charAt_5068e (by decide) rfl (Nat.le_of_ble_eq_true rfl) (k_charAt1 (fr := fr + 5) (j := 72) (by unfold vp_in; decide +kernel)) (fun v M1 hq => ?_)
  obtain ⟨rfl, hM1⟩ := hq
  rw [hM1]
  clear hM1 M1
  refine a_st (st2 := [.int 116]) (by first | decide +kernel | (refine congrArg (fun z => Value.int z :: []) ?_; decide +kernel) | (refine congrArg (fun z => Value.long z :: []) ?_; decide +kernel)) ?_
  refine a_bipush (v := 32) dX11_wordNext_30 (by decide) ?_
  refine a_icmp_eq 41 dX11_wordNext_32 (by decide) (fun c => absurd c (by decide)) (fun _ => ?_)
  refine a_iinc (v := 5) dX11_wordNext_35 rfl (by decide) (Nat.le_of_ble_eq_true rfl) (lv2 := [(4, .int 5), (2, .int 21), (3, .int 68), (6, .int 0), (5, .int 0), (1, .int 0), (0, .ref 89)]) rfl ?_
  refine a_goto 21 dX11_wordNext_38 (by decide) ?_
  refine a_ldcB dX11_wordNext_21 rfl ?_
  refine a_iload_n dX11_wordNext_23 rfl rfl ?_
  refine a_iload dX11_wordNext_24 rfl ?_
  refine a_iadd dX11_wordNext_26 ?_
  refine a_st (st2 := [.int 73, .ref 1000005]) (by first | decide +kernel | (refine congrArg (fun z => Value.int z :: [.ref 1000005]) ?_; decide +kernel) | (refine congrArg (fun z => Value.long z :: [.ref 1000005]) ?_; decide +kernel)) ?_
  refine a_callT (As := [.int 73]) (st := []) (i := 1) (bc := 0) (bs := 0) (mc := 0) (ms := 0) dX11_wordNext_27 mw_J0_charAt_5068e rfl ml_X11_194 im_J0_charAt_5068e se_J0_charAt_5068e (by decide) rfl (Nat.le_of_ble_eq_true rfl) (k_charAt1 (fr := fr + 5) (j := 73) (by unfold vp_in; decide +kernel)) (fun v M1 hq => ?_)
  obtain ⟨rfl, hM1⟩ := hq
  rw [hM1]
  clear hM1 M1
  refine a_st (st2 := [.int 32]) (by first | decide +kernel | (refine congrArg (fun z => Value.int z :: []) ?_; decide +kernel) | (refine congrArg (fun z => Value.long z :: []) ?_; decide +kernel)) ?_
  refine a_bipush (v := 32) dX11_wordNext_30 (by decide) ?_
  refine a_icmp_eq 41 dX11_wordNext_32 (by decide) (fun _ => ?_) (fun c => absurd (by decide) c)
  refine a_iload dX11_wordNext_41 rfl ?_
  refine a_iload_n dX11_wordNext_43 rfl rfl ?_
  refine a_icmp_ne 51 dX11_wordNext_44 (by decide) (fun _ => ?_) (fun c => absurd c (by decide))
  refine a_iconst (v := 0) dX11_wordNext_51 (by decide) ?_
  refine a_istore dX11_wordNext_52 (Nat.le_of_ble_eq_true rfl) (lv2 := [(5, .int 0), (4, .int 5), (2, .int 21), (3, .int 68), (6, .int 0), (1, .int 0), (0, .ref 89)]) rfl ?_
  refine a_iconst (v := 0) dX11_wordNext_54 (by decide) ?_
  refine a_istore dX11_wordNext_55 (Nat.le_of_ble_eq_true rfl) (lv2 := [(6, .int 0), (5, .int 0), (4, .int 5), (2, .int 21), (3, .int 68), (1, .int 0), (0, .ref 89)]) rfl ?_
  refine a_iload dX11_wordNext_57 rfl ?_
  refine a_iload dX11_wordNext_59 rfl ?_
  refine a_icmp_ge 106 dX11_wordNext_61 (by decide) (fun c => absurd c (by decide)) (fun _ => ?_)
  refine a_iload dX11_wordNext_64 rfl ?_
  refine a_if_eq 106 dX11_wordNext_66 (by decide) (fun _ => ?_) (fun c => absurd (by decide) c)
  refine a_iload dX11_wordNext_106 rfl ?_
  refine a_if_eq 113 dX11_wordNext_108 (by decide) (fun _ => ?_) (fun c => absurd (by decide) c)
  refine a_iload_n dX11_wordNext_113 rfl rfl ?_
  refine a_iload dX11_wordNext_114 rfl ?_
  refine a_iconst (v := 1) dX11_wordNext_116 (by decide) ?_
  refine a_iadd dX11_wordNext_117 ?_
  refine a_st (st2 := [.int 6, .int 68]) (by first | decide +kernel | (refine congrArg (fun z => Value.int z :: [.int 68]) ?_; decide +kernel) | (refine congrArg (fun z => Value.long z :: [.int 68]) ?_; decide +kernel)) ?_
  refine a_iadd dX11_wordNext_118 ?_
  refine a_st (st2 := [.int 74]) (by first | decide +kernel | (refine congrArg (fun z => Value.int z :: []) ?_; decide +kernel) | (refine congrArg (fun z => Value.long z :: []) ?_; decide +kernel)) ?_
  refine a_istore_n dX11_wordNext_119 rfl (Nat.le_of_ble_eq_true rfl) (lv2 := [(3, .int 74), (6, .int 0), (5, .int 0), (4, .int 5), (2, .int 21), (1, .int 0), (0, .ref 89)]) rfl ?_
  refine a_iinc (v := 22) dX11_wordNext_120 rfl (by decide) (Nat.le_of_ble_eq_true rfl) (lv2 := [(2, .int 22), (3, .int 74), (6, .int 0), (5, .int 0), (4, .int 5), (1, .int 0), (0, .ref 89)]) rfl ?_
  refine a_goto 9 dX11_wordNext_123 (by decide) ?_
  refine a_iload_n dX11_wordNext_9 rfl rfl ?_
  refine a_ldcB dX11_wordNext_10 rfl ?_
  refine a_callT (As := []) (st := [.int 74]) (i := 1) (bc := 0) (bs := 0) (mc := 0) (ms := 0) dX11_wordNext_12 mw_J0_length_8abf5 rfl ml_X11_189 im_J0_length_8abf5 se_J0_length_8abf5 (by decide) rfl (Nat.le_of_ble_eq_true rfl) (k_tlen1 (fr := fr + 7)) (fun v M1 hq => ?_)
  obtain ⟨rfl, hM1⟩ := hq
  rw [hM1]
  clear hM1 M1
  show AW X _ 0 0 15 _ [.int 74, .int 74] _ _
  refine a_icmp_ge 126 dX11_wordNext_15 (by decide) (fun _ => ?_) (fun c => absurd (by decide) c)
  refine a_iconst (v := (-1)) dX11_wordNext_126 (by decide) ?_
  exact a_iret dX11_wordNext_127 rfl ⟨rfl, h1⟩
