theorem not_lt1 {x : Int32} (h : 0 < x) : ¬ x < 1 := by
  intro q
  have a1 := Int32.lt_iff_toInt_lt.mp h
  have a2 := Int32.lt_iff_toInt_lt.mp q
  have e1 : (1 : Int32).toInt = 1 := rfl
  have e0 : (0 : Int32).toInt = 0 := rfl
  omega
set_option maxHeartbeats 4000000 in
set_option maxRecDepth 100000 in
theorem p_trace {X : Nat × (Nat → Int32)} {fr : Nat} {M : Mem} (k : Int32) (h0 : Cw 126 Lj134 fs42 gs31 M) : AM yX10_trace cX10_trace 2 (some .int) true (fr + 8) 0 0 X [.ref 0, .int k] M (fun v M1 => v = some (.int (-2)) ∧ Fm M1) := by
  refine AM.of false (by decide +kernel) (by intro h; cases h) (Nat.le_of_ble_eq_true rfl) ?_
  show AW X (RX10, cX10_trace, 2, (some .int), false, true, fr + 8) 0 0 0 [(0, .ref 0), (1, .int k)] [] M _
  refine a_iload_n dX10_trace_0 rfl rfl ?_
  refine a_if_lt 18 dX10_trace_1 (by decide) (fun c1 => ?_) (fun c1 => ?_)
  · refine a_bipush (v := (-2)) dX10_trace_18 (by decide) ?_
    refine a_goto 29 dX10_trace_20 (by decide) ?_
    exact a_iret dX10_trace_29 rfl ⟨by first | rfl | decide +kernel | simp [*], fm_of h0 (fun a k ha => by solve | rfl | (repeat (first | rw [up2_a _ _ _ _ (by omega)] | rw [fZ_a (by omega)])))⟩
  · refine a_iload_n dX10_trace_4 rfl rfl ?_
    refine a_aload_n dX10_trace_5 rfl rfl ?_
    refine a_get (v := .int 0) dX10_trace_6 fl_10_180 (cw_l h0 (by decide)) (cw_s h0 (by decide) rfl) (cw_gi h0 rfl (by decide) (by first | decide +kernel | rfl)) ?_
    refine a_icmp_ge 18 dX10_trace_9 (by decide) (fun _ => ?_) (fun c => absurd (Int32.not_lt.mp (by assumption)) c)
    refine a_bipush (v := (-2)) dX10_trace_18 (by decide) ?_
    refine a_goto 29 dX10_trace_20 (by decide) ?_
    exact a_iret dX10_trace_29 rfl ⟨by first | rfl | decide +kernel | simp [*], fm_of h0 (fun a k ha => by solve | rfl | (repeat (first | rw [up2_a _ _ _ _ (by omega)] | rw [fZ_a (by omega)])))⟩
set_option maxHeartbeats 4000000 in
set_option maxRecDepth 100000 in
theorem p_cut {X : Nat × (Nat → Int32)} {fr : Nat} {M : Mem} (a : Int32) (k : Int32) (b : Int32) (c : Int32) (h0 : Cw 126 Lj134 fs42 gs31 M) : AM yX10_cut cX10_cut 5 (some .int) true (fr + 8) 0 0 X [.ref 0, .int a, .int k, .int b, .int c] M (fun v M1 => v = some (.int (-2)) ∧ Fm M1) := by
  refine AM.of false (by decide +kernel) (by intro h; cases h) (Nat.le_of_ble_eq_true rfl) ?_
  show AW X (RX10, cX10_cut, 5, (some .int), false, true, fr + 8) 0 0 0 [(0, .ref 0), (1, .int a), (2, .int k), (3, .int b), (4, .int c)] [] M _
  refine a_iload_n dX10_cut_0 rfl rfl ?_
  refine a_callS (As := [.int a]) (st := []) (bc := 0) (bs := 0) (mc := 0) (ms := 0) false dX10_cut_1 mw_X10_noSlot rfl (Or.inl ⟨rfl, ml_X10_151⟩) sm_X10_noSlot rfl (Nat.le_of_ble_eq_true rfl) (k_noSlot (fr := fr + 7) a) (fun v M1 hq => ?_)
  obtain ⟨rfl, hM1⟩ := hq
  rw [hM1]
  clear hM1 M1
  show AW X _ 0 0 4 _ [.int (if a < 0 ∨ 4 ≤ a then 1 else 0)] _ _
  refine a_if_ne 37 dX10_cut_4 (by decide) (fun c1 => ?_) (fun c1 => ?_)
  · refine a_bipush (v := (-2)) dX10_cut_37 (by decide) ?_
    exact a_iret dX10_cut_39 rfl ⟨by first | rfl | decide +kernel | simp [*], fm_of h0 (fun a k ha => by solve | rfl | (repeat (first | rw [up2_a _ _ _ _ (by omega)] | rw [fZ_a (by omega)])))⟩
  · refine a_iload_n dX10_cut_7 rfl rfl ?_
    refine a_callS (As := [.int b]) (st := []) (bc := 0) (bs := 0) (mc := 0) (ms := 0) false dX10_cut_8 mw_X10_noSlot rfl (Or.inl ⟨rfl, ml_X10_151⟩) sm_X10_noSlot rfl (Nat.le_of_ble_eq_true rfl) (k_noSlot (fr := fr + 7) b) (fun v M1 hq => ?_)
    obtain ⟨rfl, hM1⟩ := hq
    rw [hM1]
    clear hM1 M1
    show AW X _ 0 0 11 _ [.int (if b < 0 ∨ 4 ≤ b then 1 else 0)] _ _
    refine a_if_ne 37 dX10_cut_11 (by decide) (fun c2 => ?_) (fun c2 => ?_)
    · refine a_bipush (v := (-2)) dX10_cut_37 (by decide) ?_
      exact a_iret dX10_cut_39 rfl ⟨by first | rfl | decide +kernel | simp [*], fm_of h0 (fun a k ha => by solve | rfl | (repeat (first | rw [up2_a _ _ _ _ (by omega)] | rw [fZ_a (by omega)])))⟩
    · refine a_iload dX10_cut_14 rfl ?_
      refine a_callS (As := [.int c]) (st := []) (bc := 0) (bs := 0) (mc := 0) (ms := 0) false dX10_cut_16 mw_X10_noSlot rfl (Or.inl ⟨rfl, ml_X10_151⟩) sm_X10_noSlot rfl (Nat.le_of_ble_eq_true rfl) (k_noSlot (fr := fr + 7) c) (fun v M1 hq => ?_)
      obtain ⟨rfl, hM1⟩ := hq
      rw [hM1]
      clear hM1 M1
      show AW X _ 0 0 19 _ [.int (if c < 0 ∨ 4 ≤ c then 1 else 0)] _ _
      refine a_if_ne 37 dX10_cut_19 (by decide) (fun c3 => ?_) (fun c3 => ?_)
      · refine a_bipush (v := (-2)) dX10_cut_37 (by decide) ?_
        exact a_iret dX10_cut_39 rfl ⟨by first | rfl | decide +kernel | simp [*], fm_of h0 (fun a k ha => by solve | rfl | (repeat (first | rw [up2_a _ _ _ _ (by omega)] | rw [fZ_a (by omega)])))⟩
      · refine a_iload_n dX10_cut_22 rfl rfl ?_
        refine a_if_lt 37 dX10_cut_23 (by decide) (fun c4 => ?_) (fun c4 => ?_)
        · refine a_bipush (v := (-2)) dX10_cut_37 (by decide) ?_
          exact a_iret dX10_cut_39 rfl ⟨by first | rfl | decide +kernel | simp [*], fm_of h0 (fun a k ha => by solve | rfl | (repeat (first | rw [up2_a _ _ _ _ (by omega)] | rw [fZ_a (by omega)])))⟩
        · refine a_iload_n dX10_cut_26 rfl rfl ?_
          refine a_aload_n dX10_cut_27 rfl rfl ?_
          refine a_get (v := .ref 10) dX10_cut_28 fl_10_23 (cw_l h0 (by decide)) (cw_s h0 (by decide) rfl) (cw_g h0 rfl (by decide +kernel)) ?_
          refine a_getN (v := .int 0) dX10_cut_31 fn_10_138 (cw_l h0 (by decide)) (cw_s h0 (by decide) rfl) (cw_gi h0 rfl (by decide) (by first | decide +kernel | rfl)) ?_
          refine a_icmp_lt 40 dX10_cut_34 (by decide) (fun c => absurd c (by assumption)) (fun _ => ?_)
          refine a_bipush (v := (-2)) dX10_cut_37 (by decide) ?_
          exact a_iret dX10_cut_39 rfl ⟨by first | rfl | decide +kernel | simp [*], fm_of h0 (fun a k ha => by solve | rfl | (repeat (first | rw [up2_a _ _ _ _ (by omega)] | rw [fZ_a (by omega)])))⟩
set_option maxHeartbeats 4000000 in
set_option maxRecDepth 100000 in
theorem z1002_X1_bytesOf {X : Nat × (Nat → Int32)} {fr : Nat} {M : Mem}  (h0 : Cw 126 Lj134 fs42 gs31 M) : AM yX1_bytesOf cX1_bytesOf 2 (some .long) true (fr + 6) 0 0 X [.ref 2, .int 0] M (fun v M1 => v = some (.long 1) ∧ Cw 126 Lj134 fs42 gs31 M1) := by
  refine AM.of false (by decide +kernel) (by intro h; cases h) (Nat.le_of_ble_eq_true rfl) ?_
  show AW X (RX1, cX1_bytesOf, 2, (some .long), false, true, fr + 6) 0 0 0 [(0, .ref 2), (1, .int 0)] [] M _
  refine a_iload_n dX1_bytesOf_0 rfl rfl ?_
  refine a_if_lt 21 dX1_bytesOf_1 (by decide) (fun c => absurd c (by decide)) (fun _ => ?_)
  refine a_iload_n dX1_bytesOf_4 rfl rfl ?_
  refine a_aload_n dX1_bytesOf_5 rfl rfl ?_
  refine a_get (v := .int 9) dX1_bytesOf_6 fl_1_38 (cw_l h0 (by decide)) (cw_s h0 (by decide) rfl) (cw_gi h0 rfl (by decide) (by first | decide +kernel | rfl)) ?_
  refine a_icmp_ge 21 dX1_bytesOf_9 (by decide) (fun c => absurd c (by decide)) (fun _ => ?_)
  refine a_aload_n dX1_bytesOf_12 rfl rfl ?_
  refine a_get (v := .ref 6) dX1_bytesOf_13 fl_1_21 (cw_l h0 (by decide)) (cw_s h0 (by decide) rfl) (cw_g h0 rfl (by decide +kernel)) ?_
  refine a_iload_n dX1_bytesOf_16 rfl rfl ?_
  refine a_laload dX1_bytesOf_17 (cw_l h0 (by decide)) (cw_s h0 (by decide) rfl) (by unfold vp_in; decide +kernel) ?_
  rw [show M.2.2.2.1 6 (Int32.toNatClampNeg 0) = 1 from (cw_j h0 (by decide)).trans (by decide +kernel)]
  refine a_goto 22 dX1_bytesOf_18 (by decide) ?_
  exact a_lret dX1_bytesOf_22 rfl ⟨rfl, h0⟩
set_option maxHeartbeats 4000000 in
set_option maxRecDepth 100000 in
theorem z1003_X1_kindOf {X : Nat × (Nat → Int32)} {fr : Nat} {M : Mem}  (h0 : Cw 126 Lj134 fs42 gs31 M) : AM yX1_kindOf cX1_kindOf 2 (some .int) true (fr + 6) 0 0 X [.ref 2, .int 0] M (fun v M1 => v = some (.int 0) ∧ Cw 126 Lj134 fs42 gs31 M1) := by
  refine AM.of false (by decide +kernel) (by intro h; cases h) (Nat.le_of_ble_eq_true rfl) ?_
  show AW X (RX1, cX1_kindOf, 2, (some .int), false, true, fr + 6) 0 0 0 [(0, .ref 2), (1, .int 0)] [] M _
  refine a_iload_n dX1_kindOf_0 rfl rfl ?_
  refine a_if_lt 21 dX1_kindOf_1 (by decide) (fun c => absurd c (by decide)) (fun _ => ?_)
  refine a_iload_n dX1_kindOf_4 rfl rfl ?_
  refine a_aload_n dX1_kindOf_5 rfl rfl ?_
  refine a_get (v := .int 9) dX1_kindOf_6 fl_1_38 (cw_l h0 (by decide)) (cw_s h0 (by decide) rfl) (cw_gi h0 rfl (by decide) (by first | decide +kernel | rfl)) ?_
  refine a_icmp_ge 21 dX1_kindOf_9 (by decide) (fun c => absurd c (by decide)) (fun _ => ?_)
  refine a_aload_n dX1_kindOf_12 rfl rfl ?_
  refine a_get (v := .ref 3) dX1_kindOf_13 fl_1_11 (cw_l h0 (by decide)) (cw_s h0 (by decide) rfl) (cw_g h0 rfl (by decide +kernel)) ?_
  refine a_iload_n dX1_kindOf_16 rfl rfl ?_
  refine a_iaload dX1_kindOf_17 (cw_l h0 (by decide)) (cw_s h0 (by decide) rfl) (by unfold vp_in; decide +kernel) ?_
  rw [show M.2.2.1 3 (Int32.toNatClampNeg 0) = 0 from (cw_i h0 (by decide)).trans (by first | decide +kernel | rfl)]
  refine a_goto 22 dX1_kindOf_18 (by decide) ?_
  exact a_iret dX1_kindOf_22 rfl ⟨rfl, h0⟩
set_option maxHeartbeats 4000000 in
set_option maxRecDepth 100000 in
theorem z1001_X1_byteAt {X : Nat × (Nat → Int32)} {fr : Nat} {M : Mem}  (h0 : Cw 126 Lj134 fs42 gs31 M) : AM yX1_byteAt cX1_byteAt 12 (some .int) true (fr + 7) 0 0 X [.ref 2, .int 0, .long 0] M (fun v M1 => v = some (.int 112) ∧ Cw 126 Lj134 fs42 gs31 M1) := by
  refine AM.of false (by decide +kernel) (by intro h; cases h) (Nat.le_of_ble_eq_true rfl) ?_
  show AW X (RX1, cX1_byteAt, 12, (some .int), false, true, fr + 7) 0 0 0 [(0, .ref 2), (1, .int 0), (2, .long 0)] [] M _
  refine a_iload_n dX1_byteAt_0 rfl rfl ?_
  refine a_istore dX1_byteAt_1 (Nat.le_of_ble_eq_true rfl) (lv2 := [(4, .int 0), (0, .ref 2), (1, .int 0), (2, .long 0)]) rfl ?_
  refine a_lload_n dX1_byteAt_3 rfl rfl ?_
  refine a_lstore dX1_byteAt_4 (Nat.le_of_ble_eq_true rfl) (lv2 := [(5, .long 0), (4, .int 0), (0, .ref 2), (1, .int 0), (2, .long 0)]) rfl ?_
  refine a_lload dX1_byteAt_6 rfl ?_
  refine a_lconst (v := 0) dX1_byteAt_8 (by decide) ?_
  refine a_lcmp dX1_byteAt_9 ?_
  refine a_st (st2 := [.int 0]) (by decide +kernel) ?_
  refine a_if_lt 25 dX1_byteAt_10 (by decide) (fun c => absurd c (by decide)) (fun _ => ?_)
  refine a_lload dX1_byteAt_13 rfl ?_
  refine a_aload_n dX1_byteAt_15 rfl rfl ?_
  refine a_iload dX1_byteAt_16 rfl ?_
  refine a_callV (As := [.int 0]) (st := [.long 0]) (a := 2) (ci := 1) (bc := 0) (bs := 0) (mc := 0) (ms := 0) false dX1_byteAt_18 mw_X1_bytesOf rfl (Or.inl ⟨rfl, ml_X1_42⟩) im_X1_bytesOf se_X1_bytesOf (by decide) (cw_l h0 (by decide)) (cw_s h0 (by decide) rfl) rfl (Nat.le_of_ble_eq_true rfl) (z1002_X1_bytesOf (fr := fr)  h0) (fun v M1 hq => ?_)
  obtain ⟨rfl, h1⟩ := hq
  show AW X _ 0 0 21 _ [.long 1, .long 0] _ _
  refine a_lcmp dX1_byteAt_21 ?_
  refine a_st (st2 := [.int (-1)]) (by decide +kernel) ?_
  refine a_if_lt 27 dX1_byteAt_22 (by decide) (fun _ => ?_) (fun c => absurd (by decide) c)
  refine a_iconst (v := 0) dX1_byteAt_27 (by decide) ?_
  refine a_istore dX1_byteAt_28 (Nat.le_of_ble_eq_true rfl) (lv2 := [(7, .int 0), (5, .long 0), (4, .int 0), (0, .ref 2), (1, .int 0), (2, .long 0)]) rfl ?_
  refine a_iload dX1_byteAt_30 rfl ?_
  refine a_sipush (v := 5200) dX1_byteAt_32 (by decide) ?_
  refine a_icmp_ge 169 dX1_byteAt_35 (by decide) (fun c => absurd c (by decide)) (fun _ => ?_)
  refine a_aload_n dX1_byteAt_38 rfl rfl ?_
  refine a_iload dX1_byteAt_39 rfl ?_
  refine a_callV (As := [.int 0]) (st := []) (a := 2) (ci := 1) (bc := 0) (bs := 0) (mc := 0) (ms := 0) false dX1_byteAt_41 mw_X1_kindOf rfl (Or.inl ⟨rfl, ml_X1_46⟩) im_X1_kindOf se_X1_kindOf (by decide) (cw_l h1 (by decide)) (cw_s h1 (by decide) rfl) rfl (Nat.le_of_ble_eq_true rfl) (z1003_X1_kindOf (fr := fr)  h1) (fun v M2 hq => ?_)
  obtain ⟨rfl, h2⟩ := hq
  show AW X _ 0 0 44 _ [.int 0] _ _
  refine a_istore dX1_byteAt_44 (Nat.le_of_ble_eq_true rfl) (lv2 := [(8, .int 0), (7, .int 0), (5, .long 0), (4, .int 0), (0, .ref 2), (1, .int 0), (2, .long 0)]) rfl ?_
  refine a_iload dX1_byteAt_46 rfl ?_
  refine a_callS (As := [.int 0]) (st := []) (bc := 0) (bs := 0) (mc := 0) (ms := 0) true dX1_byteAt_48 mw_X10_wordLength rfl (Or.inr ⟨rfl, mn_X1_34⟩) sm_X10_wordLength rfl (Nat.le_of_ble_eq_true rfl) (k_wordLength (fr := fr + 6) 0) (fun v M1 hq => ?_)
  obtain ⟨rfl, hM1⟩ := hq
  rw [hM1]
  clear hM1 M1
  refine a_st (st2 := [.int 1]) (by decide +kernel) ?_
  refine a_istore dX1_byteAt_51 (Nat.le_of_ble_eq_true rfl) (lv2 := [(9, .int 1), (8, .int 0), (7, .int 0), (5, .long 0), (4, .int 0), (0, .ref 2), (1, .int 0), (2, .long 0)]) rfl ?_
  refine a_lload dX1_byteAt_53 rfl ?_
  refine a_iload dX1_byteAt_55 rfl ?_
  refine a_i2l dX1_byteAt_57 ?_
  refine a_st (st2 := [.long 1, .long 0]) (by decide +kernel) ?_
  refine a_lcmp dX1_byteAt_58 ?_
  refine a_st (st2 := [.int (-1)]) (by decide +kernel) ?_
  refine a_if_ge 71 dX1_byteAt_59 (by decide) (fun c => absurd c (by decide)) (fun _ => ?_)
  refine a_iload dX1_byteAt_62 rfl ?_
  refine a_lload dX1_byteAt_64 rfl ?_
  refine a_l2i dX1_byteAt_66 ?_
  refine a_st (st2 := [.int 0, .int 0]) (by decide +kernel) ?_
  refine a_callS (As := [.int 0, .int 0]) (st := []) (bc := 0) (bs := 0) (mc := 0) (ms := 0) true dX1_byteAt_67 mw_X10_wordLetter rfl (Or.inr ⟨rfl, mn_X1_49⟩) sm_X10_wordLetter rfl (Nat.le_of_ble_eq_true rfl) (k_wordLetter (fr := fr + 2) (c := 0) (i := 0) (by decide) (by decide) (by decide) (by decide +kernel) (by unfold vp_in; decide +kernel)) (fun v M1 hq => ?_)
  obtain ⟨rfl, hM1⟩ := hq
  rw [hM1]
  clear hM1 M1
  refine a_st (st2 := [.int 112]) (by decide +kernel) ?_
  exact a_iret dX1_byteAt_70 rfl ⟨rfl, h2⟩
set_option maxHeartbeats 4000000 in
set_option maxRecDepth 100000 in
theorem p_goalByte_0 {X : Nat × (Nat → Int32)} {fr : Nat} {M : Mem}  (h0 : Cw 126 Lj134 fs42 gs31 M) : AM yX10_goalByte cX10_goalByte 2 (some .int) true (fr + 8) 0 0 X [.ref 0, .int 0] M (fun v M1 => v = some (.int 112) ∧ Fm M1) := by
  refine AM.of false (by decide +kernel) (by intro h; cases h) (Nat.le_of_ble_eq_true rfl) ?_
  show AW X (RX10, cX10_goalByte, 2, (some .int), false, true, fr + 8) 0 0 0 [(0, .ref 0), (1, .int 0)] [] M _
  refine a_iload_n dX10_goalByte_0 rfl rfl ?_
  refine a_if_ge 9 dX10_goalByte_1 (by decide) (fun _ => ?_) (fun c => absurd (by decide) c)
  refine a_aload_n dX10_goalByte_9 rfl rfl ?_
  refine a_get (v := .ref 2) dX10_goalByte_10 fl_10_16 (cw_l h0 (by decide)) (cw_s h0 (by decide) rfl) (cw_g h0 rfl (by decide +kernel)) ?_
  refine a_aload_n dX10_goalByte_13 rfl rfl ?_
  refine a_get (v := .int 0) dX10_goalByte_14 fl_10_105 (cw_l h0 (by decide)) (cw_s h0 (by decide) rfl) (cw_gi h0 rfl (by decide) (by first | decide +kernel | rfl)) ?_
  refine a_iload_n dX10_goalByte_17 rfl rfl ?_
  refine a_i2l dX10_goalByte_18 ?_
  refine a_st (st2 := [.long 0, .int 0, .ref 2]) (by decide +kernel) ?_
  refine a_callV (As := [.int 0, .long 0]) (st := []) (a := 2) (ci := 1) (bc := 0) (bs := 0) (mc := 0) (ms := 0) false dX10_goalByte_19 mw_X1_byteAt rfl (Or.inl ⟨rfl, ml_X10_193⟩) im_X1_byteAt se_X1_byteAt (by decide) (cw_l h0 (by decide)) (cw_s h0 (by decide) rfl) rfl (Nat.le_of_ble_eq_true rfl) (z1001_X1_byteAt (fr := fr)  h0) (fun v M1 hq => ?_)
  obtain ⟨rfl, h1⟩ := hq
  show AW X _ 0 0 22 _ [.int 112] _ _
  exact a_iret dX10_goalByte_22 rfl ⟨by first | rfl | decide +kernel | simp [*], fm_of h1 (fun a k ha => by solve | rfl | (repeat (first | rw [up2_a _ _ _ _ (by omega)] | rw [fZ_a (by omega)])))⟩
set_option maxHeartbeats 4000000 in
set_option maxRecDepth 100000 in
theorem p_goalByte_n {X : Nat × (Nat → Int32)} {fr : Nat} {M : Mem} (n : Int32) (hn : n < 0) (h0 : Cw 126 Lj134 fs42 gs31 M) : AM yX10_goalByte cX10_goalByte 2 (some .int) true (fr + 8) 0 0 X [.ref 0, .int n] M (fun v M1 => v = some (.int (-3)) ∧ Fm M1) := by
  refine AM.of false (by decide +kernel) (by intro h; cases h) (Nat.le_of_ble_eq_true rfl) ?_
  show AW X (RX10, cX10_goalByte, 2, (some .int), false, true, fr + 8) 0 0 0 [(0, .ref 0), (1, .int n)] [] M _
  refine a_iload_n dX10_goalByte_0 rfl rfl ?_
  refine a_if_ge 9 dX10_goalByte_1 (by decide) (fun c => absurd c (Int32.not_le.mpr hn)) (fun _ => ?_)
  refine a_bipush (v := (-3)) dX10_goalByte_4 (by decide) ?_
  refine a_goto 22 dX10_goalByte_6 (by decide) ?_
  exact a_iret dX10_goalByte_22 rfl ⟨by first | rfl | decide +kernel | simp [*], fm_of h0 (fun a k ha => by solve | rfl | (repeat (first | rw [up2_a _ _ _ _ (by omega)] | rw [fZ_a (by omega)])))⟩
set_option maxHeartbeats 4000000 in
set_option maxRecDepth 100000 in
theorem z1005_X1_bytesOf {X : Nat × (Nat → Int32)} {fr : Nat} {M : Mem} (n : Int32) (hn : 0 < n) (h0 : Cw 126 Lj134 fs42 gs31 M) : AM yX1_bytesOf cX1_bytesOf 2 (some .long) true (fr + 6) 0 0 X [.ref 2, .int 0] M (fun v M1 => v = some (.long 1) ∧ Cw 126 Lj134 fs42 gs31 M1) := by
  refine AM.of false (by decide +kernel) (by intro h; cases h) (Nat.le_of_ble_eq_true rfl) ?_
  show AW X (RX1, cX1_bytesOf, 2, (some .long), false, true, fr + 6) 0 0 0 [(0, .ref 2), (1, .int 0)] [] M _
  refine a_iload_n dX1_bytesOf_0 rfl rfl ?_
  refine a_if_lt 21 dX1_bytesOf_1 (by decide) (fun c => absurd c (by decide)) (fun _ => ?_)
  refine a_iload_n dX1_bytesOf_4 rfl rfl ?_
  refine a_aload_n dX1_bytesOf_5 rfl rfl ?_
  refine a_get (v := .int 9) dX1_bytesOf_6 fl_1_38 (cw_l h0 (by decide)) (cw_s h0 (by decide) rfl) (cw_gi h0 rfl (by decide) (by first | decide +kernel | rfl)) ?_
  refine a_icmp_ge 21 dX1_bytesOf_9 (by decide) (fun c => absurd c (by decide)) (fun _ => ?_)
  refine a_aload_n dX1_bytesOf_12 rfl rfl ?_
  refine a_get (v := .ref 6) dX1_bytesOf_13 fl_1_21 (cw_l h0 (by decide)) (cw_s h0 (by decide) rfl) (cw_g h0 rfl (by decide +kernel)) ?_
  refine a_iload_n dX1_bytesOf_16 rfl rfl ?_
  refine a_laload dX1_bytesOf_17 (cw_l h0 (by decide)) (cw_s h0 (by decide) rfl) (by unfold vp_in; decide +kernel) ?_
  rw [show M.2.2.2.1 6 (Int32.toNatClampNeg 0) = 1 from (cw_j h0 (by decide)).trans (by decide +kernel)]
  refine a_goto 22 dX1_bytesOf_18 (by decide) ?_
  exact a_lret dX1_bytesOf_22 rfl ⟨rfl, h0⟩
set_option maxHeartbeats 4000000 in
set_option maxRecDepth 100000 in
theorem z1004_X1_byteAt {X : Nat × (Nat → Int32)} {fr : Nat} {M : Mem} (n : Int32) (hn : 0 < n) (h0 : Cw 126 Lj134 fs42 gs31 M) : AM yX1_byteAt cX1_byteAt 12 (some .int) true (fr + 7) 0 0 X [.ref 2, .int 0, .long (Int32.toInt64 n)] M (fun v M1 => v = some (.int (-1)) ∧ Cw 126 Lj134 fs42 gs31 M1) := by
  refine AM.of false (by decide +kernel) (by intro h; cases h) (Nat.le_of_ble_eq_true rfl) ?_
  show AW X (RX1, cX1_byteAt, 12, (some .int), false, true, fr + 7) 0 0 0 [(0, .ref 2), (1, .int 0), (2, .long (Int32.toInt64 n))] [] M _
  refine a_iload_n dX1_byteAt_0 rfl rfl ?_
  refine a_istore dX1_byteAt_1 (Nat.le_of_ble_eq_true rfl) (lv2 := [(4, .int 0), (0, .ref 2), (1, .int 0), (2, .long (Int32.toInt64 n))]) rfl ?_
  refine a_lload_n dX1_byteAt_3 rfl rfl ?_
  refine a_lstore dX1_byteAt_4 (Nat.le_of_ble_eq_true rfl) (lv2 := [(5, .long (Int32.toInt64 n)), (4, .int 0), (0, .ref 2), (1, .int 0), (2, .long (Int32.toInt64 n))]) rfl ?_
  refine a_lload dX1_byteAt_6 rfl ?_
  refine a_lconst (v := 0) dX1_byteAt_8 (by decide) ?_
  refine a_lcmp dX1_byteAt_9 ?_
  refine a_if_lt 25 dX1_byteAt_10 (by decide) (fun c => absurd c (fun q => not_neg hn ((lgl n 0).mp q))) (fun _ => ?_)
  refine a_lload dX1_byteAt_13 rfl ?_
  refine a_aload_n dX1_byteAt_15 rfl rfl ?_
  refine a_iload dX1_byteAt_16 rfl ?_
  refine a_callV (As := [.int 0]) (st := [.long (Int32.toInt64 n)]) (a := 2) (ci := 1) (bc := 0) (bs := 0) (mc := 0) (ms := 0) false dX1_byteAt_18 mw_X1_bytesOf rfl (Or.inl ⟨rfl, ml_X1_42⟩) im_X1_bytesOf se_X1_bytesOf (by decide) (cw_l h0 (by decide)) (cw_s h0 (by decide) rfl) rfl (Nat.le_of_ble_eq_true rfl) (z1005_X1_bytesOf (fr := fr) n hn h0) (fun v M1 hq => ?_)
  obtain ⟨rfl, h1⟩ := hq
  show AW X _ 0 0 21 _ [.long 1, .long (Int32.toInt64 n)] _ _
  refine a_lcmp dX1_byteAt_21 ?_
  refine a_if_lt 27 dX1_byteAt_22 (by decide) (fun c => absurd c (fun q => not_lt1 hn ((lgl n 1).mp q))) (fun _ => ?_)
  refine a_iconst (v := (-1)) dX1_byteAt_25 (by decide) ?_
  exact a_iret dX1_byteAt_26 rfl ⟨rfl, h1⟩
set_option maxHeartbeats 4000000 in
set_option maxRecDepth 100000 in
theorem p_goalByte_p {X : Nat × (Nat → Int32)} {fr : Nat} {M : Mem} (n : Int32) (hn : 0 < n) (h0 : Cw 126 Lj134 fs42 gs31 M) : AM yX10_goalByte cX10_goalByte 2 (some .int) true (fr + 8) 0 0 X [.ref 0, .int n] M (fun v M1 => v = some (.int (-1)) ∧ Fm M1) := by
  refine AM.of false (by decide +kernel) (by intro h; cases h) (Nat.le_of_ble_eq_true rfl) ?_
  show AW X (RX10, cX10_goalByte, 2, (some .int), false, true, fr + 8) 0 0 0 [(0, .ref 0), (1, .int n)] [] M _
  refine a_iload_n dX10_goalByte_0 rfl rfl ?_
  refine a_if_ge 9 dX10_goalByte_1 (by decide) (fun _ => ?_) (fun c => absurd (Int32.not_lt.mp (not_neg hn)) c)
  refine a_aload_n dX10_goalByte_9 rfl rfl ?_
  refine a_get (v := .ref 2) dX10_goalByte_10 fl_10_16 (cw_l h0 (by decide)) (cw_s h0 (by decide) rfl) (cw_g h0 rfl (by decide +kernel)) ?_
  refine a_aload_n dX10_goalByte_13 rfl rfl ?_
  refine a_get (v := .int 0) dX10_goalByte_14 fl_10_105 (cw_l h0 (by decide)) (cw_s h0 (by decide) rfl) (cw_gi h0 rfl (by decide) (by first | decide +kernel | rfl)) ?_
  refine a_iload_n dX10_goalByte_17 rfl rfl ?_
  refine a_i2l dX10_goalByte_18 ?_
  refine a_callV (As := [.int 0, .long (Int32.toInt64 n)]) (st := []) (a := 2) (ci := 1) (bc := 0) (bs := 0) (mc := 0) (ms := 0) false dX10_goalByte_19 mw_X1_byteAt rfl (Or.inl ⟨rfl, ml_X10_193⟩) im_X1_byteAt se_X1_byteAt (by decide) (cw_l h0 (by decide)) (cw_s h0 (by decide) rfl) rfl (Nat.le_of_ble_eq_true rfl) (z1004_X1_byteAt (fr := fr) n hn h0) (fun v M1 hq => ?_)
  obtain ⟨rfl, h1⟩ := hq
  show AW X _ 0 0 22 _ [.int (-1)] _ _
  exact a_iret dX10_goalByte_22 rfl ⟨by first | rfl | decide +kernel | simp [*], fm_of h1 (fun a k ha => by solve | rfl | (repeat (first | rw [up2_a _ _ _ _ (by omega)] | rw [fZ_a (by omega)])))⟩
set_option maxHeartbeats 4000000 in
set_option maxRecDepth 100000 in
theorem z1006_X1_kindOf {X : Nat × (Nat → Int32)} {fr : Nat} {M : Mem} (w : Int32) (h0 : Cw 126 Lj134 fs42 gs31 M) : AM yX1_kindOf cX1_kindOf 2 (some .int) true (fr + 7) 0 0 X [.ref 2, .int 0] M (fun v M1 => v = some (.int 0) ∧ Cw 126 Lj134 fs42 gs31 M1) := by
  refine AM.of false (by decide +kernel) (by intro h; cases h) (Nat.le_of_ble_eq_true rfl) ?_
  show AW X (RX1, cX1_kindOf, 2, (some .int), false, true, fr + 7) 0 0 0 [(0, .ref 2), (1, .int 0)] [] M _
  refine a_iload_n dX1_kindOf_0 rfl rfl ?_
  refine a_if_lt 21 dX1_kindOf_1 (by decide) (fun c => absurd c (by decide)) (fun _ => ?_)
  refine a_iload_n dX1_kindOf_4 rfl rfl ?_
  refine a_aload_n dX1_kindOf_5 rfl rfl ?_
  refine a_get (v := .int 9) dX1_kindOf_6 fl_1_38 (cw_l h0 (by decide)) (cw_s h0 (by decide) rfl) (cw_gi h0 rfl (by decide) (by first | decide +kernel | rfl)) ?_
  refine a_icmp_ge 21 dX1_kindOf_9 (by decide) (fun c => absurd c (by decide)) (fun _ => ?_)
  refine a_aload_n dX1_kindOf_12 rfl rfl ?_
  refine a_get (v := .ref 3) dX1_kindOf_13 fl_1_11 (cw_l h0 (by decide)) (cw_s h0 (by decide) rfl) (cw_g h0 rfl (by decide +kernel)) ?_
  refine a_iload_n dX1_kindOf_16 rfl rfl ?_
  refine a_iaload dX1_kindOf_17 (cw_l h0 (by decide)) (cw_s h0 (by decide) rfl) (by unfold vp_in; decide +kernel) ?_
  rw [show M.2.2.1 3 (Int32.toNatClampNeg 0) = 0 from (cw_i h0 (by decide)).trans (by first | decide +kernel | rfl)]
  refine a_goto 22 dX1_kindOf_18 (by decide) ?_
  exact a_iret dX1_kindOf_22 rfl ⟨rfl, h0⟩
set_option maxHeartbeats 4000000 in
set_option maxRecDepth 100000 in
theorem p_bySide {X : Nat × (Nat → Int32)} {fr : Nat} {M : Mem} (w : Int32) (h0 : Cw 126 Lj134 fs42 gs31 M) : AM yX10_bySide cX10_bySide 2 (some .int) true (fr + 8) 0 0 X [.ref 0, .int w] M (fun v M1 => v = some (.int (if w < 0 then -2 else if w ≤ 1 then -5 else -2)) ∧ Fm M1) := by
  refine AM.of false (by decide +kernel) (by intro h; cases h) (Nat.le_of_ble_eq_true rfl) ?_
  show AW X (RX10, cX10_bySide, 2, (some .int), false, true, fr + 8) 0 0 0 [(0, .ref 0), (1, .int w)] [] M _
  refine a_iload_n dX10_bySide_0 rfl rfl ?_
  refine a_if_lt 9 dX10_bySide_1 (by decide) (fun c1 => ?_) (fun c1 => ?_)
  · refine a_bipush (v := (-2)) dX10_bySide_9 (by decide) ?_
    exact a_iret dX10_bySide_11 rfl ⟨by solve | rfl | (repeat (first | rw [if_pos (by assumption)] | rw [if_neg (by assumption)])) | simp_all, fm_of h0 (fun a k ha => by solve | rfl | (repeat (first | rw [up2_a _ _ _ _ (by omega)] | rw [fZ_a (by omega)])))⟩
  · refine a_iload_n dX10_bySide_4 rfl rfl ?_
    refine a_iconst (v := 1) dX10_bySide_5 (by decide) ?_
    refine a_icmp_le 12 dX10_bySide_6 (by decide) (fun c2 => ?_) (fun c2 => ?_)
    · refine a_aload_n dX10_bySide_12 rfl rfl ?_
      refine a_get (v := .ref 2) dX10_bySide_13 fl_10_16 (cw_l h0 (by decide)) (cw_s h0 (by decide) rfl) (cw_g h0 rfl (by decide +kernel)) ?_
      refine a_aload_n dX10_bySide_16 rfl rfl ?_
      refine a_get (v := .int 0) dX10_bySide_17 fl_10_105 (cw_l h0 (by decide)) (cw_s h0 (by decide) rfl) (cw_gi h0 rfl (by decide) (by first | decide +kernel | rfl)) ?_
      refine a_callV (As := [.int 0]) (st := []) (a := 2) (ci := 1) (bc := 0) (bs := 0) (mc := 0) (ms := 0) false dX10_bySide_20 mw_X1_kindOf rfl (Or.inl ⟨rfl, ml_X10_305⟩) im_X1_kindOf se_X1_kindOf (by decide) (cw_l h0 (by decide)) (cw_s h0 (by decide) rfl) rfl (Nat.le_of_ble_eq_true rfl) (z1006_X1_kindOf (fr := fr) w h0) (fun v M3 hq => ?_)
      obtain ⟨rfl, h3⟩ := hq
      show AW X _ 0 0 23 _ [.int 0] _ _
      refine a_bipush (v := 11) dX10_bySide_23 (by decide) ?_
      refine a_icmp_eq 31 dX10_bySide_25 (by decide) (fun c => absurd c (by decide)) (fun _ => ?_)
      refine a_bipush (v := (-5)) dX10_bySide_28 (by decide) ?_
      exact a_iret dX10_bySide_30 rfl ⟨by solve | rfl | (repeat (first | rw [if_pos (by assumption)] | rw [if_neg (by assumption)])) | simp_all, fm_of h3 (fun a k ha => by solve | rfl | (repeat (first | rw [up2_a _ _ _ _ (by omega)] | rw [fZ_a (by omega)])))⟩
    · refine a_bipush (v := (-2)) dX10_bySide_9 (by decide) ?_
      exact a_iret dX10_bySide_11 rfl ⟨by solve | rfl | (repeat (first | rw [if_pos (by assumption)] | rw [if_neg (by assumption)])) | simp_all, fm_of h0 (fun a k ha => by solve | rfl | (repeat (first | rw [up2_a _ _ _ _ (by omega)] | rw [fZ_a (by omega)])))⟩
set_option maxHeartbeats 4000000 in
set_option maxRecDepth 100000 in
theorem z1008_X1_beginMarks {X : Nat × (Nat → Int32)} {fr : Nat} {M : Mem}  (h0 : Cw 126 Lj134 fs42 gs31 M) : AM yX1_beginMarks cX1_beginMarks 1 none true (fr + 6) 0 0 X [.ref 2] M (fun v M1 => v = none ∧ Cw 126 Lj134 (up2 fs42 2 8 1) gs31 M1) := by
  refine AM.of false (by decide +kernel) (by intro h; cases h) (Nat.le_of_ble_eq_true rfl) ?_
  show AW X (RX1, cX1_beginMarks, 1, none, false, true, fr + 6) 0 0 0 [(0, .ref 2)] [] M _
  refine a_aload_n dX1_beginMarks_0 rfl rfl ?_
  refine a_dup dX1_beginMarks_1 rfl ?_
  refine a_get (v := .int 0) dX1_beginMarks_2 fl_1_59 (cw_l h0 (by decide)) (cw_s h0 (by decide) rfl) (cw_gi h0 rfl (by decide) (by first | decide +kernel | rfl)) ?_
  refine a_iconst (v := 1) dX1_beginMarks_5 (by decide) ?_
  refine a_iadd dX1_beginMarks_6 ?_
  refine a_st (st2 := [.int 1, .ref 2]) (by decide +kernel) ?_
  refine a_putI dX1_beginMarks_7 (Or.inl ⟨fl_1_59, Or.inl rfl⟩) rfl (cw_l h0 (by decide)) (cw_s h0 (by decide) rfl) rfl rfl ?_
  have h1 : Cw 126 Lj134 (up2 fs42 2 8 1) gs31 (wI M 2 8 1) := cw_I h0 (by decide)
  generalize (wI M 2 8 1) = M1 at h1 ⊢
  exact a_vret dX1_beginMarks_10 rfl ⟨rfl, h1⟩
set_option maxHeartbeats 4000000 in
set_option maxRecDepth 100000 in
theorem z1009_X2_markFormulas {X : Nat × (Nat → Int32)} {fr : Nat} {M : Mem}  (h0 : Cw 126 Lj134 (up2 fs42 2 8 1) gs31 M) : AM yX2_markFormulas cX2_markFormulas 3 none true (fr + 6) 0 0 X [.ref 10, .ref 2] M (fun v M1 => v = none ∧ Cw 126 Lj134 (up2 fs42 2 8 1) gs31 M1) := by
  refine AM.of false (by decide +kernel) (by intro h; cases h) (Nat.le_of_ble_eq_true rfl) ?_
  show AW X (RX2, cX2_markFormulas, 3, none, false, true, fr + 6) 0 0 0 [(0, .ref 10), (1, .ref 2)] [] M _
  refine a_iconst (v := 0) dX2_markFormulas_0 (by decide) ?_
  refine a_istore_n dX2_markFormulas_1 rfl (Nat.le_of_ble_eq_true rfl) (lv2 := [(2, .int 0), (0, .ref 10), (1, .ref 2)]) rfl ?_
  refine a_iload_n dX2_markFormulas_2 rfl rfl ?_
  refine a_aload_n dX2_markFormulas_3 rfl rfl ?_
  refine a_get (v := .int 0) dX2_markFormulas_4 fl_2_21 (cw_l h0 (by decide)) (cw_s h0 (by decide) rfl) (cw_gi h0 rfl (by decide) (by first | decide +kernel | rfl)) ?_
  refine a_icmp_ge 33 dX2_markFormulas_7 (by decide) (fun _ => ?_) (fun c => absurd (by decide) c)
  exact a_vret dX2_markFormulas_33 rfl ⟨rfl, h0⟩
set_option maxHeartbeats 4000000 in
set_option maxRecDepth 100000 in
theorem z1010_X1_mark {X : Nat × (Nat → Int32)} {fr : Nat} {M : Mem}  (h0 : Cw 126 Lj134 (up2 fs42 2 8 1) gs31 M) : AM yX1_mark cX1_mark 2 (some .boolean) true (fr + 6) 0 0 X [.ref 2, .int 0] M (fun v M1 => v = some (.int 1) ∧ Cw 126 Lj134 (up2 (up2 fs42 2 8 1) 8 0 1) gs31 M1) := by
  refine AM.of false (by decide +kernel) (by intro h; cases h) (Nat.le_of_ble_eq_true rfl) ?_
  show AW X (RX1, cX1_mark, 2, (some .boolean), false, true, fr + 6) 0 0 0 [(0, .ref 2), (1, .int 0)] [] M _
  refine a_iload_n dX1_mark_0 rfl rfl ?_
  refine a_if_lt 25 dX1_mark_1 (by decide) (fun c => absurd c (by decide)) (fun _ => ?_)
  refine a_iload_n dX1_mark_4 rfl rfl ?_
  refine a_aload_n dX1_mark_5 rfl rfl ?_
  refine a_get (v := .int 9) dX1_mark_6 fl_1_38 (cw_l h0 (by decide)) (cw_s h0 (by decide) rfl) (cw_gi h0 rfl (by decide) (by first | decide +kernel | rfl)) ?_
  refine a_icmp_ge 25 dX1_mark_9 (by decide) (fun c => absurd c (by decide)) (fun _ => ?_)
  refine a_aload_n dX1_mark_12 rfl rfl ?_
  refine a_get (v := .ref 8) dX1_mark_13 fl_1_28 (cw_l h0 (by decide)) (cw_s h0 (by decide) rfl) (cw_g h0 rfl (by decide +kernel)) ?_
  refine a_iload_n dX1_mark_16 rfl rfl ?_
  refine a_iaload dX1_mark_17 (cw_l h0 (by decide)) (cw_s h0 (by decide) rfl) (by unfold vp_in; decide +kernel) ?_
  rw [show M.2.2.1 8 (Int32.toNatClampNeg 0) = 0 from (cw_i h0 (by decide)).trans (by first | decide +kernel | rfl)]
  refine a_aload_n dX1_mark_18 rfl rfl ?_
  refine a_get (v := .int 1) dX1_mark_19 fl_1_59 (cw_l h0 (by decide)) (cw_s h0 (by decide) rfl) (cw_gi h0 rfl (by decide) (by first | decide +kernel | rfl)) ?_
  refine a_icmp_ne 27 dX1_mark_22 (by decide) (fun _ => ?_) (fun c => absurd c (by decide))
  refine a_aload_n dX1_mark_27 rfl rfl ?_
  refine a_get (v := .ref 8) dX1_mark_28 fl_1_28 (cw_l h0 (by decide)) (cw_s h0 (by decide) rfl) (cw_g h0 rfl (by decide +kernel)) ?_
  refine a_iload_n dX1_mark_31 rfl rfl ?_
  refine a_aload_n dX1_mark_32 rfl rfl ?_
  refine a_get (v := .int 1) dX1_mark_33 fl_1_59 (cw_l h0 (by decide)) (cw_s h0 (by decide) rfl) (cw_gi h0 rfl (by decide) (by first | decide +kernel | rfl)) ?_
  refine a_iastore dX1_mark_36 (cw_l h0 (by decide)) (cw_s h0 (by decide) rfl) (by unfold vp_in; decide +kernel) ?_
  rw [show Int32.toNatClampNeg 0 = 0 from by decide +kernel]
  have h1 : Cw 126 Lj134 (up2 (up2 fs42 2 8 1) 8 0 1) gs31 (wI M 8 0 1) := cw_I h0 (by decide)
  generalize (wI M 8 0 1) = M1 at h1 ⊢
  refine a_iconst (v := 1) dX1_mark_37 (by decide) ?_
  exact a_zret dX1_mark_38 rfl (by decide) ⟨rfl, h1⟩
set_option maxHeartbeats 4000000 in
set_option maxRecDepth 100000 in
theorem z1012_X1_mark {X : Nat × (Nat → Int32)} {fr : Nat} {M : Mem}  (h0 : Cw 126 Lj134 (up2 (up2 fs42 2 8 1) 8 0 1) gs31 M) : AM yX1_mark cX1_mark 2 (some .boolean) true (fr + 5) 0 0 X [.ref 2, .int (-1)] M (fun v M1 => v = some (.int 0) ∧ Cw 126 Lj134 (up2 (up2 fs42 2 8 1) 8 0 1) gs31 M1) := by
  refine AM.of false (by decide +kernel) (by intro h; cases h) (Nat.le_of_ble_eq_true rfl) ?_
  show AW X (RX1, cX1_mark, 2, (some .boolean), false, true, fr + 5) 0 0 0 [(0, .ref 2), (1, .int (-1))] [] M _
  refine a_iload_n dX1_mark_0 rfl rfl ?_
  refine a_if_lt 25 dX1_mark_1 (by decide) (fun _ => ?_) (fun c => absurd (by decide) c)
  refine a_iconst (v := 0) dX1_mark_25 (by decide) ?_
  exact a_zret dX1_mark_26 rfl (by decide) ⟨rfl, h0⟩
set_option maxHeartbeats 4000000 in
set_option maxRecDepth 100000 in
theorem z1011_X1_markParts {X : Nat × (Nat → Int32)} {fr : Nat} {M : Mem}  (h0 : Cw 126 Lj134 (up2 (up2 fs42 2 8 1) 8 0 1) gs31 M) : AM yX1_markParts cX1_markParts 3 (some .int) true (fr + 6) 0 0 X [.ref 2] M (fun v M1 => v = some (.int 1) ∧ Cw 126 Lj134 (up2 (up2 fs42 2 8 1) 8 0 1) gs31 M1) := by
  refine AM.of false (by decide +kernel) (by intro h; cases h) (Nat.le_of_ble_eq_true rfl) ?_
  show AW X (RX1, cX1_markParts, 3, (some .int), false, true, fr + 6) 0 0 0 [(0, .ref 2)] [] M _
  refine a_iconst (v := 0) dX1_markParts_0 (by decide) ?_
  refine a_istore_n dX1_markParts_1 rfl (Nat.le_of_ble_eq_true rfl) (lv2 := [(1, .int 0), (0, .ref 2)]) rfl ?_
  refine a_aload_n dX1_markParts_2 rfl rfl ?_
  refine a_get (v := .int 9) dX1_markParts_3 fl_1_38 (cw_l h0 (by decide)) (cw_s h0 (by decide) rfl) (cw_gi h0 rfl (by decide) (by first | decide +kernel | rfl)) ?_
  refine a_iconst (v := 1) dX1_markParts_6 (by decide) ?_
  refine a_isub dX1_markParts_7 ?_
  refine a_st (st2 := [.int 8]) (by decide +kernel) ?_
  refine a_istore_n dX1_markParts_8 rfl (Nat.le_of_ble_eq_true rfl) (lv2 := [(2, .int 8), (1, .int 0), (0, .ref 2)]) rfl ?_
  refine a_iload_n dX1_markParts_9 rfl rfl ?_
  refine a_if_lt 57 dX1_markParts_10 (by decide) (fun c => absurd c (by decide)) (fun _ => ?_)
  refine a_aload_n dX1_markParts_13 rfl rfl ?_
  refine a_get (v := .ref 8) dX1_markParts_14 fl_1_28 (cw_l h0 (by decide)) (cw_s h0 (by decide) rfl) (cw_g h0 rfl (by decide +kernel)) ?_
  refine a_iload_n dX1_markParts_17 rfl rfl ?_
  refine a_iaload dX1_markParts_18 (cw_l h0 (by decide)) (cw_s h0 (by decide) rfl) (by unfold vp_in; decide +kernel) ?_
  rw [show M.2.2.1 8 (Int32.toNatClampNeg 8) = 0 from (cw_i h0 (by decide)).trans (by first | decide +kernel | rfl)]
  refine a_aload_n dX1_markParts_19 rfl rfl ?_
  refine a_get (v := .int 1) dX1_markParts_20 fl_1_59 (cw_l h0 (by decide)) (cw_s h0 (by decide) rfl) (cw_gi h0 rfl (by decide) (by first | decide +kernel | rfl)) ?_
  refine a_icmp_ne 51 dX1_markParts_23 (by decide) (fun _ => ?_) (fun c => absurd c (by decide))
  refine a_iinc (v := 7) dX1_markParts_51 rfl (by decide) (Nat.le_of_ble_eq_true rfl) (lv2 := [(2, .int 7), (1, .int 0), (0, .ref 2)]) rfl ?_
  refine a_goto 9 dX1_markParts_54 (by decide) ?_
  refine a_iload_n dX1_markParts_9 rfl rfl ?_
  refine a_if_lt 57 dX1_markParts_10 (by decide) (fun c => absurd c (by decide)) (fun _ => ?_)
  refine a_aload_n dX1_markParts_13 rfl rfl ?_
  refine a_get (v := .ref 8) dX1_markParts_14 fl_1_28 (cw_l h0 (by decide)) (cw_s h0 (by decide) rfl) (cw_g h0 rfl (by decide +kernel)) ?_
  refine a_iload_n dX1_markParts_17 rfl rfl ?_
  refine a_iaload dX1_markParts_18 (cw_l h0 (by decide)) (cw_s h0 (by decide) rfl) (by unfold vp_in; decide +kernel) ?_
  rw [show M.2.2.1 8 (Int32.toNatClampNeg 7) = 0 from (cw_i h0 (by decide)).trans (by first | decide +kernel | rfl)]
  refine a_aload_n dX1_markParts_19 rfl rfl ?_
  refine a_get (v := .int 1) dX1_markParts_20 fl_1_59 (cw_l h0 (by decide)) (cw_s h0 (by decide) rfl) (cw_gi h0 rfl (by decide) (by first | decide +kernel | rfl)) ?_
  refine a_icmp_ne 51 dX1_markParts_23 (by decide) (fun _ => ?_) (fun c => absurd c (by decide))
  refine a_iinc (v := 6) dX1_markParts_51 rfl (by decide) (Nat.le_of_ble_eq_true rfl) (lv2 := [(2, .int 6), (1, .int 0), (0, .ref 2)]) rfl ?_
  refine a_goto 9 dX1_markParts_54 (by decide) ?_
  refine a_iload_n dX1_markParts_9 rfl rfl ?_
  refine a_if_lt 57 dX1_markParts_10 (by decide) (fun c => absurd c (by decide)) (fun _ => ?_)
  refine a_aload_n dX1_markParts_13 rfl rfl ?_
  refine a_get (v := .ref 8) dX1_markParts_14 fl_1_28 (cw_l h0 (by decide)) (cw_s h0 (by decide) rfl) (cw_g h0 rfl (by decide +kernel)) ?_
  refine a_iload_n dX1_markParts_17 rfl rfl ?_
  refine a_iaload dX1_markParts_18 (cw_l h0 (by decide)) (cw_s h0 (by decide) rfl) (by unfold vp_in; decide +kernel) ?_
  rw [show M.2.2.1 8 (Int32.toNatClampNeg 6) = 0 from (cw_i h0 (by decide)).trans (by first | decide +kernel | rfl)]
  refine a_aload_n dX1_markParts_19 rfl rfl ?_
  refine a_get (v := .int 1) dX1_markParts_20 fl_1_59 (cw_l h0 (by decide)) (cw_s h0 (by decide) rfl) (cw_gi h0 rfl (by decide) (by first | decide +kernel | rfl)) ?_
  refine a_icmp_ne 51 dX1_markParts_23 (by decide) (fun _ => ?_) (fun c => absurd c (by decide))
  refine a_iinc (v := 5) dX1_markParts_51 rfl (by decide) (Nat.le_of_ble_eq_true rfl) (lv2 := [(2, .int 5), (1, .int 0), (0, .ref 2)]) rfl ?_
  refine a_goto 9 dX1_markParts_54 (by decide) ?_
  refine a_iload_n dX1_markParts_9 rfl rfl ?_
  refine a_if_lt 57 dX1_markParts_10 (by decide) (fun c => absurd c (by decide)) (fun _ => ?_)
  refine a_aload_n dX1_markParts_13 rfl rfl ?_
  refine a_get (v := .ref 8) dX1_markParts_14 fl_1_28 (cw_l h0 (by decide)) (cw_s h0 (by decide) rfl) (cw_g h0 rfl (by decide +kernel)) ?_
  refine a_iload_n dX1_markParts_17 rfl rfl ?_
  refine a_iaload dX1_markParts_18 (cw_l h0 (by decide)) (cw_s h0 (by decide) rfl) (by unfold vp_in; decide +kernel) ?_
  rw [show M.2.2.1 8 (Int32.toNatClampNeg 5) = 0 from (cw_i h0 (by decide)).trans (by first | decide +kernel | rfl)]
  refine a_aload_n dX1_markParts_19 rfl rfl ?_
  refine a_get (v := .int 1) dX1_markParts_20 fl_1_59 (cw_l h0 (by decide)) (cw_s h0 (by decide) rfl) (cw_gi h0 rfl (by decide) (by first | decide +kernel | rfl)) ?_
  refine a_icmp_ne 51 dX1_markParts_23 (by decide) (fun _ => ?_) (fun c => absurd c (by decide))
  refine a_iinc (v := 4) dX1_markParts_51 rfl (by decide) (Nat.le_of_ble_eq_true rfl) (lv2 := [(2, .int 4), (1, .int 0), (0, .ref 2)]) rfl ?_
  refine a_goto 9 dX1_markParts_54 (by decide) ?_
  refine a_iload_n dX1_markParts_9 rfl rfl ?_
  refine a_if_lt 57 dX1_markParts_10 (by decide) (fun c => absurd c (by decide)) (fun _ => ?_)
  refine a_aload_n dX1_markParts_13 rfl rfl ?_
  refine a_get (v := .ref 8) dX1_markParts_14 fl_1_28 (cw_l h0 (by decide)) (cw_s h0 (by decide) rfl) (cw_g h0 rfl (by decide +kernel)) ?_
  refine a_iload_n dX1_markParts_17 rfl rfl ?_
  refine a_iaload dX1_markParts_18 (cw_l h0 (by decide)) (cw_s h0 (by decide) rfl) (by unfold vp_in; decide +kernel) ?_
  rw [show M.2.2.1 8 (Int32.toNatClampNeg 4) = 0 from (cw_i h0 (by decide)).trans (by first | decide +kernel | rfl)]
  refine a_aload_n dX1_markParts_19 rfl rfl ?_
  refine a_get (v := .int 1) dX1_markParts_20 fl_1_59 (cw_l h0 (by decide)) (cw_s h0 (by decide) rfl) (cw_gi h0 rfl (by decide) (by first | decide +kernel | rfl)) ?_
  refine a_icmp_ne 51 dX1_markParts_23 (by decide) (fun _ => ?_) (fun c => absurd c (by decide))
  refine a_iinc (v := 3) dX1_markParts_51 rfl (by decide) (Nat.le_of_ble_eq_true rfl) (lv2 := [(2, .int 3), (1, .int 0), (0, .ref 2)]) rfl ?_
  refine a_goto 9 dX1_markParts_54 (by decide) ?_
  refine a_iload_n dX1_markParts_9 rfl rfl ?_
  refine a_if_lt 57 dX1_markParts_10 (by decide) (fun c => absurd c (by decide)) (fun _ => ?_)
  refine a_aload_n dX1_markParts_13 rfl rfl ?_
  refine a_get (v := .ref 8) dX1_markParts_14 fl_1_28 (cw_l h0 (by decide)) (cw_s h0 (by decide) rfl) (cw_g h0 rfl (by decide +kernel)) ?_
  refine a_iload_n dX1_markParts_17 rfl rfl ?_
  refine a_iaload dX1_markParts_18 (cw_l h0 (by decide)) (cw_s h0 (by decide) rfl) (by unfold vp_in; decide +kernel) ?_
  rw [show M.2.2.1 8 (Int32.toNatClampNeg 3) = 0 from (cw_i h0 (by decide)).trans (by first | decide +kernel | rfl)]
  refine a_aload_n dX1_markParts_19 rfl rfl ?_
  refine a_get (v := .int 1) dX1_markParts_20 fl_1_59 (cw_l h0 (by decide)) (cw_s h0 (by decide) rfl) (cw_gi h0 rfl (by decide) (by first | decide +kernel | rfl)) ?_
  refine a_icmp_ne 51 dX1_markParts_23 (by decide) (fun _ => ?_) (fun c => absurd c (by decide))
  refine a_iinc (v := 2) dX1_markParts_51 rfl (by decide) (Nat.le_of_ble_eq_true rfl) (lv2 := [(2, .int 2), (1, .int 0), (0, .ref 2)]) rfl ?_
  refine a_goto 9 dX1_markParts_54 (by decide) ?_
  refine a_iload_n dX1_markParts_9 rfl rfl ?_
  refine a_if_lt 57 dX1_markParts_10 (by decide) (fun c => absurd c (by decide)) (fun _ => ?_)
  refine a_aload_n dX1_markParts_13 rfl rfl ?_
  refine a_get (v := .ref 8) dX1_markParts_14 fl_1_28 (cw_l h0 (by decide)) (cw_s h0 (by decide) rfl) (cw_g h0 rfl (by decide +kernel)) ?_
  refine a_iload_n dX1_markParts_17 rfl rfl ?_
  refine a_iaload dX1_markParts_18 (cw_l h0 (by decide)) (cw_s h0 (by decide) rfl) (by unfold vp_in; decide +kernel) ?_
  rw [show M.2.2.1 8 (Int32.toNatClampNeg 2) = 0 from (cw_i h0 (by decide)).trans (by first | decide +kernel | rfl)]
  refine a_aload_n dX1_markParts_19 rfl rfl ?_
  refine a_get (v := .int 1) dX1_markParts_20 fl_1_59 (cw_l h0 (by decide)) (cw_s h0 (by decide) rfl) (cw_gi h0 rfl (by decide) (by first | decide +kernel | rfl)) ?_
  refine a_icmp_ne 51 dX1_markParts_23 (by decide) (fun _ => ?_) (fun c => absurd c (by decide))
  refine a_iinc (v := 1) dX1_markParts_51 rfl (by decide) (Nat.le_of_ble_eq_true rfl) (lv2 := [(2, .int 1), (1, .int 0), (0, .ref 2)]) rfl ?_
  refine a_goto 9 dX1_markParts_54 (by decide) ?_
  refine a_iload_n dX1_markParts_9 rfl rfl ?_
  refine a_if_lt 57 dX1_markParts_10 (by decide) (fun c => absurd c (by decide)) (fun _ => ?_)
  refine a_aload_n dX1_markParts_13 rfl rfl ?_
  refine a_get (v := .ref 8) dX1_markParts_14 fl_1_28 (cw_l h0 (by decide)) (cw_s h0 (by decide) rfl) (cw_g h0 rfl (by decide +kernel)) ?_
  refine a_iload_n dX1_markParts_17 rfl rfl ?_
  refine a_iaload dX1_markParts_18 (cw_l h0 (by decide)) (cw_s h0 (by decide) rfl) (by unfold vp_in; decide +kernel) ?_
  rw [show M.2.2.1 8 (Int32.toNatClampNeg 1) = 0 from (cw_i h0 (by decide)).trans (by first | decide +kernel | rfl)]
  refine a_aload_n dX1_markParts_19 rfl rfl ?_
  refine a_get (v := .int 1) dX1_markParts_20 fl_1_59 (cw_l h0 (by decide)) (cw_s h0 (by decide) rfl) (cw_gi h0 rfl (by decide) (by first | decide +kernel | rfl)) ?_
  refine a_icmp_ne 51 dX1_markParts_23 (by decide) (fun _ => ?_) (fun c => absurd c (by decide))
  refine a_iinc (v := 0) dX1_markParts_51 rfl (by decide) (Nat.le_of_ble_eq_true rfl) (lv2 := [(2, .int 0), (1, .int 0), (0, .ref 2)]) rfl ?_
  refine a_goto 9 dX1_markParts_54 (by decide) ?_
  refine a_iload_n dX1_markParts_9 rfl rfl ?_
  refine a_if_lt 57 dX1_markParts_10 (by decide) (fun c => absurd c (by decide)) (fun _ => ?_)
  refine a_aload_n dX1_markParts_13 rfl rfl ?_
  refine a_get (v := .ref 8) dX1_markParts_14 fl_1_28 (cw_l h0 (by decide)) (cw_s h0 (by decide) rfl) (cw_g h0 rfl (by decide +kernel)) ?_
  refine a_iload_n dX1_markParts_17 rfl rfl ?_
  refine a_iaload dX1_markParts_18 (cw_l h0 (by decide)) (cw_s h0 (by decide) rfl) (by unfold vp_in; decide +kernel) ?_
  rw [show M.2.2.1 8 (Int32.toNatClampNeg 0) = 1 from (cw_i h0 (by decide)).trans (by first | decide +kernel | rfl)]
  refine a_aload_n dX1_markParts_19 rfl rfl ?_
  refine a_get (v := .int 1) dX1_markParts_20 fl_1_59 (cw_l h0 (by decide)) (cw_s h0 (by decide) rfl) (cw_gi h0 rfl (by decide) (by first | decide +kernel | rfl)) ?_
  refine a_icmp_ne 51 dX1_markParts_23 (by decide) (fun c => absurd (by decide) c) (fun _ => ?_)
  refine a_aload_n dX1_markParts_26 rfl rfl ?_
  refine a_aload_n dX1_markParts_27 rfl rfl ?_
  refine a_get (v := .ref 4) dX1_markParts_28 fl_1_15 (cw_l h0 (by decide)) (cw_s h0 (by decide) rfl) (cw_g h0 rfl (by decide +kernel)) ?_
  refine a_iload_n dX1_markParts_31 rfl rfl ?_
  refine a_iaload dX1_markParts_32 (cw_l h0 (by decide)) (cw_s h0 (by decide) rfl) (by unfold vp_in; decide +kernel) ?_
  rw [show M.2.2.1 4 (Int32.toNatClampNeg 0) = (-1) from (cw_i h0 (by decide)).trans (by first | decide +kernel | rfl)]
  refine a_callV (As := [.int (-1)]) (st := []) (a := 2) (ci := 1) (bc := 0) (bs := 0) (mc := 0) (ms := 0) false dX1_markParts_33 mw_X1_mark rfl (Or.inl ⟨rfl, ml_X1_62⟩) im_X1_mark se_X1_mark (by decide) (cw_l h0 (by decide)) (cw_s h0 (by decide) rfl) rfl (Nat.le_of_ble_eq_true rfl) (z1012_X1_mark (fr := fr)  h0) (fun v M1 hq => ?_)
  obtain ⟨rfl, h1⟩ := hq
  show AW X _ 0 0 36 _ [.int 0] _ _
  refine a_pop dX1_markParts_36 rfl ?_
  refine a_aload_n dX1_markParts_37 rfl rfl ?_
  refine a_aload_n dX1_markParts_38 rfl rfl ?_
  refine a_get (v := .ref 5) dX1_markParts_39 fl_1_18 (cw_l h1 (by decide)) (cw_s h1 (by decide) rfl) (cw_g h1 rfl (by decide +kernel)) ?_
  refine a_iload_n dX1_markParts_42 rfl rfl ?_
  refine a_iaload dX1_markParts_43 (cw_l h1 (by decide)) (cw_s h1 (by decide) rfl) (by unfold vp_in; decide +kernel) ?_
  rw [show M1.2.2.1 5 (Int32.toNatClampNeg 0) = (-1) from (cw_i h1 (by decide)).trans (by first | decide +kernel | rfl)]
  refine a_callV (As := [.int (-1)]) (st := []) (a := 2) (ci := 1) (bc := 0) (bs := 0) (mc := 0) (ms := 0) false dX1_markParts_44 mw_X1_mark rfl (Or.inl ⟨rfl, ml_X1_62⟩) im_X1_mark se_X1_mark (by decide) (cw_l h1 (by decide)) (cw_s h1 (by decide) rfl) rfl (Nat.le_of_ble_eq_true rfl) (z1012_X1_mark (fr := fr)  h1) (fun v M2 hq => ?_)
  obtain ⟨rfl, h2⟩ := hq
  show AW X _ 0 0 47 _ [.int 0] _ _
  refine a_pop dX1_markParts_47 rfl ?_
  refine a_iinc (v := 1) dX1_markParts_48 rfl (by decide) (Nat.le_of_ble_eq_true rfl) (lv2 := [(1, .int 1), (2, .int 0), (0, .ref 2)]) rfl ?_
  refine a_iinc (v := (-1)) dX1_markParts_51 rfl (by decide) (Nat.le_of_ble_eq_true rfl) (lv2 := [(2, .int (-1)), (1, .int 1), (0, .ref 2)]) rfl ?_
  refine a_goto 9 dX1_markParts_54 (by decide) ?_
  refine a_iload_n dX1_markParts_9 rfl rfl ?_
  refine a_if_lt 57 dX1_markParts_10 (by decide) (fun _ => ?_) (fun c => absurd (by decide) c)
  refine a_iload_n dX1_markParts_57 rfl rfl ?_
  exact a_iret dX1_markParts_58 rfl ⟨rfl, h2⟩
set_option maxHeartbeats 4000000 in
set_option maxRecDepth 100000 in
theorem z1013_X1_isMarked {X : Nat × (Nat → Int32)} {fr : Nat} {M : Mem}  (h0 : Cw 126 Lj134 (up2 (up2 (up2 fs42 2 8 1) 8 0 1) 74 6 0) gs31 M) : AM yX1_isMarked cX1_isMarked 2 (some .boolean) true (fr + 6) 0 0 X [.ref 2, .int 0] M (fun v M1 => v = some (.int 1) ∧ Cw 126 Lj134 (up2 (up2 (up2 fs42 2 8 1) 8 0 1) 74 6 0) gs31 M1) := by
  refine AM.of false (by decide +kernel) (by intro h; cases h) (Nat.le_of_ble_eq_true rfl) ?_
  show AW X (RX1, cX1_isMarked, 2, (some .boolean), false, true, fr + 6) 0 0 0 [(0, .ref 2), (1, .int 0)] [] M _
  refine a_iload_n dX1_isMarked_0 rfl rfl ?_
  refine a_if_lt 29 dX1_isMarked_1 (by decide) (fun c => absurd c (by decide)) (fun _ => ?_)
  refine a_iload_n dX1_isMarked_4 rfl rfl ?_
  refine a_aload_n dX1_isMarked_5 rfl rfl ?_
  refine a_get (v := .int 9) dX1_isMarked_6 fl_1_38 (cw_l h0 (by decide)) (cw_s h0 (by decide) rfl) (cw_gi h0 rfl (by decide) (by first | decide +kernel | rfl)) ?_
  refine a_icmp_ge 29 dX1_isMarked_9 (by decide) (fun c => absurd c (by decide)) (fun _ => ?_)
  refine a_aload_n dX1_isMarked_12 rfl rfl ?_
  refine a_get (v := .ref 8) dX1_isMarked_13 fl_1_28 (cw_l h0 (by decide)) (cw_s h0 (by decide) rfl) (cw_g h0 rfl (by decide +kernel)) ?_
  refine a_iload_n dX1_isMarked_16 rfl rfl ?_
  refine a_iaload dX1_isMarked_17 (cw_l h0 (by decide)) (cw_s h0 (by decide) rfl) (by unfold vp_in; decide +kernel) ?_
  rw [show M.2.2.1 8 (Int32.toNatClampNeg 0) = 1 from (cw_i h0 (by decide)).trans (by first | decide +kernel | rfl)]
  refine a_aload_n dX1_isMarked_18 rfl rfl ?_
  refine a_get (v := .int 1) dX1_isMarked_19 fl_1_59 (cw_l h0 (by decide)) (cw_s h0 (by decide) rfl) (cw_gi h0 rfl (by decide) (by first | decide +kernel | rfl)) ?_
  refine a_icmp_ne 29 dX1_isMarked_22 (by decide) (fun c => absurd (by decide) c) (fun _ => ?_)
  refine a_iconst (v := 1) dX1_isMarked_25 (by decide) ?_
  refine a_goto 30 dX1_isMarked_26 (by decide) ?_
  exact a_zret dX1_isMarked_30 rfl (by decide) ⟨rfl, h0⟩
set_option maxHeartbeats 4000000 in
set_option maxRecDepth 100000 in
theorem z1014_X1_kindOf {X : Nat × (Nat → Int32)} {fr : Nat} {M : Mem}  (h0 : Cw 126 Lj134 (up2 (up2 (up2 (up2 fs42 2 8 1) 8 0 1) 74 6 0) 75 0 0) gs31 M) : AM yX1_kindOf cX1_kindOf 2 (some .int) true (fr + 6) 0 0 X [.ref 2, .int 0] M (fun v M1 => v = some (.int 0) ∧ Cw 126 Lj134 (up2 (up2 (up2 (up2 fs42 2 8 1) 8 0 1) 74 6 0) 75 0 0) gs31 M1) := by
  refine AM.of false (by decide +kernel) (by intro h; cases h) (Nat.le_of_ble_eq_true rfl) ?_
  show AW X (RX1, cX1_kindOf, 2, (some .int), false, true, fr + 6) 0 0 0 [(0, .ref 2), (1, .int 0)] [] M _
  refine a_iload_n dX1_kindOf_0 rfl rfl ?_
  refine a_if_lt 21 dX1_kindOf_1 (by decide) (fun c => absurd c (by decide)) (fun _ => ?_)
  refine a_iload_n dX1_kindOf_4 rfl rfl ?_
  refine a_aload_n dX1_kindOf_5 rfl rfl ?_
  refine a_get (v := .int 9) dX1_kindOf_6 fl_1_38 (cw_l h0 (by decide)) (cw_s h0 (by decide) rfl) (cw_gi h0 rfl (by decide) (by first | decide +kernel | rfl)) ?_
  refine a_icmp_ge 21 dX1_kindOf_9 (by decide) (fun c => absurd c (by decide)) (fun _ => ?_)
  refine a_aload_n dX1_kindOf_12 rfl rfl ?_
  refine a_get (v := .ref 3) dX1_kindOf_13 fl_1_11 (cw_l h0 (by decide)) (cw_s h0 (by decide) rfl) (cw_g h0 rfl (by decide +kernel)) ?_
  refine a_iload_n dX1_kindOf_16 rfl rfl ?_
  refine a_iaload dX1_kindOf_17 (cw_l h0 (by decide)) (cw_s h0 (by decide) rfl) (by unfold vp_in; decide +kernel) ?_
  rw [show M.2.2.1 3 (Int32.toNatClampNeg 0) = 0 from (cw_i h0 (by decide)).trans (by first | decide +kernel | rfl)]
  refine a_goto 22 dX1_kindOf_18 (by decide) ?_
  exact a_iret dX1_kindOf_22 rfl ⟨rfl, h0⟩
set_option maxHeartbeats 4000000 in
set_option maxRecDepth 100000 in
theorem z1015_X1_leftOf {X : Nat × (Nat → Int32)} {fr : Nat} {M : Mem}  (h0 : Cw 126 Lj134 (up2 (up2 (up2 (up2 (up2 fs42 2 8 1) 8 0 1) 74 6 0) 75 0 0) 76 0 0) gs31 M) : AM yX1_leftOf cX1_leftOf 2 (some .int) true (fr + 6) 0 0 X [.ref 2, .int 0] M (fun v M1 => v = some (.int (-1)) ∧ Cw 126 Lj134 (up2 (up2 (up2 (up2 (up2 fs42 2 8 1) 8 0 1) 74 6 0) 75 0 0) 76 0 0) gs31 M1) := by
  refine AM.of false (by decide +kernel) (by intro h; cases h) (Nat.le_of_ble_eq_true rfl) ?_
  show AW X (RX1, cX1_leftOf, 2, (some .int), false, true, fr + 6) 0 0 0 [(0, .ref 2), (1, .int 0)] [] M _
  refine a_iload_n dX1_leftOf_0 rfl rfl ?_
  refine a_if_lt 21 dX1_leftOf_1 (by decide) (fun c => absurd c (by decide)) (fun _ => ?_)
  refine a_iload_n dX1_leftOf_4 rfl rfl ?_
  refine a_aload_n dX1_leftOf_5 rfl rfl ?_
  refine a_get (v := .int 9) dX1_leftOf_6 fl_1_38 (cw_l h0 (by decide)) (cw_s h0 (by decide) rfl) (cw_gi h0 rfl (by decide) (by first | decide +kernel | rfl)) ?_
  refine a_icmp_ge 21 dX1_leftOf_9 (by decide) (fun c => absurd c (by decide)) (fun _ => ?_)
  refine a_aload_n dX1_leftOf_12 rfl rfl ?_
  refine a_get (v := .ref 4) dX1_leftOf_13 fl_1_15 (cw_l h0 (by decide)) (cw_s h0 (by decide) rfl) (cw_g h0 rfl (by decide +kernel)) ?_
  refine a_iload_n dX1_leftOf_16 rfl rfl ?_
  refine a_iaload dX1_leftOf_17 (cw_l h0 (by decide)) (cw_s h0 (by decide) rfl) (by unfold vp_in; decide +kernel) ?_
  rw [show M.2.2.1 4 (Int32.toNatClampNeg 0) = (-1) from (cw_i h0 (by decide)).trans (by first | decide +kernel | rfl)]
  refine a_goto 22 dX1_leftOf_18 (by decide) ?_
  exact a_iret dX1_leftOf_22 rfl ⟨rfl, h0⟩
set_option maxHeartbeats 4000000 in
set_option maxRecDepth 100000 in
theorem z1017_X10_at {X : Nat × (Nat → Int32)} {fr : Nat} {M : Mem}  (h0 : Cw 126 Lj134 (up2 (up2 (up2 (up2 (up2 fs42 2 8 1) 8 0 1) 74 6 0) 75 0 0) 76 0 0) gs31 M) : AM yX10_at cX10_at 2 (some .int) true (fr + 5) 0 0 X [.ref 75, .int (-1)] M (fun v M1 => v = some (.int (-1)) ∧ Cw 126 Lj134 (up2 (up2 (up2 (up2 (up2 fs42 2 8 1) 8 0 1) 74 6 0) 75 0 0) 76 0 0) gs31 M1) := by
  refine AM.of false (by decide +kernel) (by intro h; cases h) (Nat.le_of_ble_eq_true rfl) ?_
  show AW X (RX10, cX10_at, 2, (some .int), false, true, fr + 5) 0 0 0 [(0, .ref 75), (1, .int (-1))] [] M _
  refine a_iload_n dX10_at_0 rfl rfl ?_
  refine a_if_lt 16 dX10_at_1 (by decide) (fun _ => ?_) (fun c => absurd (by decide) c)
  refine a_iconst (v := (-1)) dX10_at_16 (by decide) ?_
  exact a_iret dX10_at_17 rfl ⟨rfl, h0⟩
set_option maxHeartbeats 4000000 in
set_option maxRecDepth 100000 in
theorem z1016_X5_spotOf {X : Nat × (Nat → Int32)} {fr : Nat} {M : Mem}  (h0 : Cw 126 Lj134 (up2 (up2 (up2 (up2 (up2 fs42 2 8 1) 8 0 1) 74 6 0) 75 0 0) 76 0 0) gs31 M) : AM yX5_spotOf cX5_spotOf 2 (some .int) true (fr + 6) 0 0 X [.ref 74, .int (-1)] M (fun v M1 => v = some (.int (-1)) ∧ Cw 126 Lj134 (up2 (up2 (up2 (up2 (up2 fs42 2 8 1) 8 0 1) 74 6 0) 75 0 0) 76 0 0) gs31 M1) := by
  refine AM.of false (by decide +kernel) (by intro h; cases h) (Nat.le_of_ble_eq_true rfl) ?_
  show AW X (RX5, cX5_spotOf, 2, (some .int), false, true, fr + 6) 0 0 0 [(0, .ref 74), (1, .int (-1))] [] M _
  refine a_aload_n dX5_spotOf_0 rfl rfl ?_
  refine a_get (v := .ref 75) dX5_spotOf_1 fl_5_11 (cw_l h0 (by decide)) (cw_s h0 (by decide) rfl) (cw_g h0 rfl (by decide +kernel)) ?_
  refine a_iload_n dX5_spotOf_4 rfl rfl ?_
  refine a_callS (As := [.ref 75, .int (-1)]) (st := []) (bc := 0) (bs := 0) (mc := 0) (ms := 0) true dX5_spotOf_5 mw_X10_at rfl (Or.inr ⟨rfl, mn_X5_71⟩) sm_X10_at rfl (Nat.le_of_ble_eq_true rfl) (z1017_X10_at (fr := fr)  h0) (fun v M1 hq => ?_)
  obtain ⟨rfl, h1⟩ := hq
  show AW X _ 0 0 8 _ [.int (-1)] _ _
  exact a_iret dX5_spotOf_8 rfl ⟨rfl, h1⟩
set_option maxHeartbeats 4000000 in
set_option maxRecDepth 100000 in
theorem z1018_X1_rightOf {X : Nat × (Nat → Int32)} {fr : Nat} {M : Mem}  (h0 : Cw 126 Lj134 (up2 (up2 (up2 (up2 (up2 (up2 fs42 2 8 1) 8 0 1) 74 6 0) 75 0 0) 76 0 0) 77 0 (-1)) gs31 M) : AM yX1_rightOf cX1_rightOf 2 (some .int) true (fr + 6) 0 0 X [.ref 2, .int 0] M (fun v M1 => v = some (.int (-1)) ∧ Cw 126 Lj134 (up2 (up2 (up2 (up2 (up2 (up2 fs42 2 8 1) 8 0 1) 74 6 0) 75 0 0) 76 0 0) 77 0 (-1)) gs31 M1) := by
  refine AM.of false (by decide +kernel) (by intro h; cases h) (Nat.le_of_ble_eq_true rfl) ?_
  show AW X (RX1, cX1_rightOf, 2, (some .int), false, true, fr + 6) 0 0 0 [(0, .ref 2), (1, .int 0)] [] M _
  refine a_iload_n dX1_rightOf_0 rfl rfl ?_
  refine a_if_lt 21 dX1_rightOf_1 (by decide) (fun c => absurd c (by decide)) (fun _ => ?_)
  refine a_iload_n dX1_rightOf_4 rfl rfl ?_
  refine a_aload_n dX1_rightOf_5 rfl rfl ?_
  refine a_get (v := .int 9) dX1_rightOf_6 fl_1_38 (cw_l h0 (by decide)) (cw_s h0 (by decide) rfl) (cw_gi h0 rfl (by decide) (by first | decide +kernel | rfl)) ?_
  refine a_icmp_ge 21 dX1_rightOf_9 (by decide) (fun c => absurd c (by decide)) (fun _ => ?_)
  refine a_aload_n dX1_rightOf_12 rfl rfl ?_
  refine a_get (v := .ref 5) dX1_rightOf_13 fl_1_18 (cw_l h0 (by decide)) (cw_s h0 (by decide) rfl) (cw_g h0 rfl (by decide +kernel)) ?_
  refine a_iload_n dX1_rightOf_16 rfl rfl ?_
  refine a_iaload dX1_rightOf_17 (cw_l h0 (by decide)) (cw_s h0 (by decide) rfl) (by unfold vp_in; decide +kernel) ?_
  rw [show M.2.2.1 5 (Int32.toNatClampNeg 0) = (-1) from (cw_i h0 (by decide)).trans (by first | decide +kernel | rfl)]
  refine a_goto 22 dX1_rightOf_18 (by decide) ?_
  exact a_iret dX1_rightOf_22 rfl ⟨rfl, h0⟩
set_option maxHeartbeats 4000000 in
set_option maxRecDepth 100000 in
theorem z1020_X10_at {X : Nat × (Nat → Int32)} {fr : Nat} {M : Mem}  (h0 : Cw 126 Lj134 (up2 (up2 (up2 (up2 (up2 (up2 fs42 2 8 1) 8 0 1) 74 6 0) 75 0 0) 76 0 0) 77 0 (-1)) gs31 M) : AM yX10_at cX10_at 2 (some .int) true (fr + 5) 0 0 X [.ref 75, .int (-1)] M (fun v M1 => v = some (.int (-1)) ∧ Cw 126 Lj134 (up2 (up2 (up2 (up2 (up2 (up2 fs42 2 8 1) 8 0 1) 74 6 0) 75 0 0) 76 0 0) 77 0 (-1)) gs31 M1) := by
  refine AM.of false (by decide +kernel) (by intro h; cases h) (Nat.le_of_ble_eq_true rfl) ?_
  show AW X (RX10, cX10_at, 2, (some .int), false, true, fr + 5) 0 0 0 [(0, .ref 75), (1, .int (-1))] [] M _
  refine a_iload_n dX10_at_0 rfl rfl ?_
  refine a_if_lt 16 dX10_at_1 (by decide) (fun _ => ?_) (fun c => absurd (by decide) c)
  refine a_iconst (v := (-1)) dX10_at_16 (by decide) ?_
  exact a_iret dX10_at_17 rfl ⟨rfl, h0⟩
set_option maxHeartbeats 4000000 in
set_option maxRecDepth 100000 in
theorem z1019_X5_spotOf {X : Nat × (Nat → Int32)} {fr : Nat} {M : Mem}  (h0 : Cw 126 Lj134 (up2 (up2 (up2 (up2 (up2 (up2 fs42 2 8 1) 8 0 1) 74 6 0) 75 0 0) 76 0 0) 77 0 (-1)) gs31 M) : AM yX5_spotOf cX5_spotOf 2 (some .int) true (fr + 6) 0 0 X [.ref 74, .int (-1)] M (fun v M1 => v = some (.int (-1)) ∧ Cw 126 Lj134 (up2 (up2 (up2 (up2 (up2 (up2 fs42 2 8 1) 8 0 1) 74 6 0) 75 0 0) 76 0 0) 77 0 (-1)) gs31 M1) := by
  refine AM.of false (by decide +kernel) (by intro h; cases h) (Nat.le_of_ble_eq_true rfl) ?_
  show AW X (RX5, cX5_spotOf, 2, (some .int), false, true, fr + 6) 0 0 0 [(0, .ref 74), (1, .int (-1))] [] M _
  refine a_aload_n dX5_spotOf_0 rfl rfl ?_
  refine a_get (v := .ref 75) dX5_spotOf_1 fl_5_11 (cw_l h0 (by decide)) (cw_s h0 (by decide) rfl) (cw_g h0 rfl (by decide +kernel)) ?_
  refine a_iload_n dX5_spotOf_4 rfl rfl ?_
  refine a_callS (As := [.ref 75, .int (-1)]) (st := []) (bc := 0) (bs := 0) (mc := 0) (ms := 0) true dX5_spotOf_5 mw_X10_at rfl (Or.inr ⟨rfl, mn_X5_71⟩) sm_X10_at rfl (Nat.le_of_ble_eq_true rfl) (z1020_X10_at (fr := fr)  h0) (fun v M1 hq => ?_)
  obtain ⟨rfl, h1⟩ := hq
  show AW X _ 0 0 8 _ [.int (-1)] _ _
  exact a_iret dX5_spotOf_8 rfl ⟨rfl, h1⟩
set_option maxHeartbeats 4000000 in
set_option maxRecDepth 100000 in
theorem z1007_X5_collect {X : Nat × (Nat → Int32)} {fr : Nat} {M : Mem}  (h0 : Cw 126 Lj134 fs42 gs31 M) : AM yX5_collect cX5_collect 5 none true (fr + 7) 0 0 X [.ref 74, .ref 10, .int 0] M (fun v M1 => v = none ∧ Cw 126 Lj134 (up2 (up2 (up2 (up2 (up2 (up2 (up2 (up2 fs42 2 8 1) 8 0 1) 74 6 0) 75 0 0) 76 0 0) 77 0 (-1)) 78 0 (-1)) 74 6 1) gs31 M1) := by
  refine AM.of false (by decide +kernel) (by intro h; cases h) (Nat.le_of_ble_eq_true rfl) ?_
  show AW X (RX5, cX5_collect, 5, none, false, true, fr + 7) 0 0 0 [(0, .ref 74), (1, .ref 10), (2, .int 0)] [] M _
  refine a_aload_n dX5_collect_0 rfl rfl ?_
  refine a_get (v := .ref 2) dX5_collect_1 fl_5_30 (cw_l h0 (by decide)) (cw_s h0 (by decide) rfl) (cw_g h0 rfl (by decide +kernel)) ?_
  refine a_callV (As := []) (st := []) (a := 2) (ci := 1) (bc := 0) (bs := 0) (mc := 0) (ms := 0) false dX5_collect_4 mw_X1_beginMarks rfl (Or.inl ⟨rfl, ml_X5_34⟩) im_X1_beginMarks se_X1_beginMarks (by decide) (cw_l h0 (by decide)) (cw_s h0 (by decide) rfl) rfl (Nat.le_of_ble_eq_true rfl) (z1008_X1_beginMarks (fr := fr)  h0) (fun v M1 hq => ?_)
  obtain ⟨rfl, h1⟩ := hq
  refine a_aload_n dX5_collect_7 rfl rfl ?_
  refine a_aload_n dX5_collect_8 rfl rfl ?_
  refine a_get (v := .ref 2) dX5_collect_9 fl_5_30 (cw_l h1 (by decide)) (cw_s h1 (by decide) rfl) (cw_g h1 rfl (by decide +kernel)) ?_
  refine a_callV (As := [.ref 2]) (st := []) (a := 10) (ci := 2) (bc := 0) (bs := 0) (mc := 0) (ms := 0) false dX5_collect_12 mw_X2_markFormulas rfl (Or.inl ⟨rfl, ml_X5_37⟩) im_X2_markFormulas se_X2_markFormulas (by decide) (cw_l h1 (by decide)) (cw_s h1 (by decide) rfl) rfl (Nat.le_of_ble_eq_true rfl) (z1009_X2_markFormulas (fr := fr)  h1) (fun v M2 hq => ?_)
  obtain ⟨rfl, h2⟩ := hq
  refine a_aload_n dX5_collect_15 rfl rfl ?_
  refine a_get (v := .ref 2) dX5_collect_16 fl_5_30 (cw_l h2 (by decide)) (cw_s h2 (by decide) rfl) (cw_g h2 rfl (by decide +kernel)) ?_
  refine a_iload_n dX5_collect_19 rfl rfl ?_
  refine a_callV (As := [.int 0]) (st := []) (a := 2) (ci := 1) (bc := 0) (bs := 0) (mc := 0) (ms := 0) false dX5_collect_20 mw_X1_mark rfl (Or.inl ⟨rfl, ml_X5_43⟩) im_X1_mark se_X1_mark (by decide) (cw_l h2 (by decide)) (cw_s h2 (by decide) rfl) rfl (Nat.le_of_ble_eq_true rfl) (z1010_X1_mark (fr := fr)  h2) (fun v M3 hq => ?_)
  obtain ⟨rfl, h3⟩ := hq
  show AW X _ 0 0 23 _ [.int 1] _ _
  refine a_pop dX5_collect_23 rfl ?_
  refine a_aload_n dX5_collect_24 rfl rfl ?_
  refine a_get (v := .ref 2) dX5_collect_25 fl_5_30 (cw_l h3 (by decide)) (cw_s h3 (by decide) rfl) (cw_g h3 rfl (by decide +kernel)) ?_
  refine a_callV (As := []) (st := []) (a := 2) (ci := 1) (bc := 0) (bs := 0) (mc := 0) (ms := 0) false dX5_collect_28 mw_X1_markParts rfl (Or.inl ⟨rfl, ml_X5_47⟩) im_X1_markParts se_X1_markParts (by decide) (cw_l h3 (by decide)) (cw_s h3 (by decide) rfl) rfl (Nat.le_of_ble_eq_true rfl) (z1011_X1_markParts (fr := fr)  h3) (fun v M4 hq => ?_)
  obtain ⟨rfl, h4⟩ := hq
  show AW X _ 0 0 31 _ [.int 1] _ _
  refine a_istore_n dX5_collect_31 rfl (Nat.le_of_ble_eq_true rfl) (lv2 := [(3, .int 1), (0, .ref 74), (1, .ref 10), (2, .int 0)]) rfl ?_
  refine a_aload_n dX5_collect_32 rfl rfl ?_
  refine a_iconst (v := 0) dX5_collect_33 (by decide) ?_
  refine a_putI dX5_collect_34 (Or.inl ⟨fl_5_51, Or.inl rfl⟩) rfl (cw_l h4 (by decide)) (cw_s h4 (by decide) rfl) rfl rfl ?_
  have h5 : Cw 126 Lj134 (up2 (up2 (up2 fs42 2 8 1) 8 0 1) 74 6 0) gs31 (wI M4 74 6 0) := cw_I h4 (by decide)
  generalize (wI M4 74 6 0) = M5 at h5 ⊢
  refine a_iconst (v := 0) dX5_collect_37 (by decide) ?_
  refine a_istore dX5_collect_38 (Nat.le_of_ble_eq_true rfl) (lv2 := [(4, .int 0), (3, .int 1), (0, .ref 74), (1, .ref 10), (2, .int 0)]) rfl ?_
  refine a_iload dX5_collect_40 rfl ?_
  refine a_sipush (v := 5200) dX5_collect_42 (by decide) ?_
  refine a_icmp_ge 166 dX5_collect_45 (by decide) (fun c => absurd c (by decide)) (fun _ => ?_)
  refine a_iload_n dX5_collect_48 rfl rfl ?_
  refine a_if_le 166 dX5_collect_49 (by decide) (fun c => absurd c (by decide)) (fun _ => ?_)
  refine a_aload_n dX5_collect_52 rfl rfl ?_
  refine a_get (v := .int 0) dX5_collect_53 fl_5_51 (cw_l h5 (by decide)) (cw_s h5 (by decide) rfl) (cw_gi h5 rfl (by decide) (by first | decide +kernel | rfl)) ?_
  refine a_sipush (v := 420) dX5_collect_56 (by decide) ?_
  refine a_icmp_ge 166 dX5_collect_59 (by decide) (fun c => absurd c (by decide)) (fun _ => ?_)
  refine a_aload_n dX5_collect_62 rfl rfl ?_
  refine a_get (v := .ref 2) dX5_collect_63 fl_5_30 (cw_l h5 (by decide)) (cw_s h5 (by decide) rfl) (cw_g h5 rfl (by decide +kernel)) ?_
  refine a_iload dX5_collect_66 rfl ?_
  refine a_callV (As := [.int 0]) (st := []) (a := 2) (ci := 1) (bc := 0) (bs := 0) (mc := 0) (ms := 0) false dX5_collect_68 mw_X1_isMarked rfl (Or.inl ⟨rfl, ml_X5_55⟩) im_X1_isMarked se_X1_isMarked (by decide) (cw_l h5 (by decide)) (cw_s h5 (by decide) rfl) rfl (Nat.le_of_ble_eq_true rfl) (z1013_X1_isMarked (fr := fr)  h5) (fun v M6 hq => ?_)
  obtain ⟨rfl, h6⟩ := hq
  show AW X _ 0 0 71 _ [.int 1] _ _
  refine a_if_eq 160 dX5_collect_71 (by decide) (fun c => absurd c (by decide)) (fun _ => ?_)
  refine a_aload_n dX5_collect_74 rfl rfl ?_
  refine a_get (v := .ref 75) dX5_collect_75 fl_5_11 (cw_l h6 (by decide)) (cw_s h6 (by decide) rfl) (cw_g h6 rfl (by decide +kernel)) ?_
  refine a_iload dX5_collect_78 rfl ?_
  refine a_aload_n dX5_collect_80 rfl rfl ?_
  refine a_get (v := .int 0) dX5_collect_81 fl_5_51 (cw_l h6 (by decide)) (cw_s h6 (by decide) rfl) (cw_gi h6 rfl (by decide) (by first | decide +kernel | rfl)) ?_
  refine a_iastore dX5_collect_84 (cw_l h6 (by decide)) (cw_s h6 (by decide) rfl) (by unfold vp_in; decide +kernel) ?_
  rw [show Int32.toNatClampNeg 0 = 0 from by decide +kernel]
  have h7 : Cw 126 Lj134 (up2 (up2 (up2 (up2 fs42 2 8 1) 8 0 1) 74 6 0) 75 0 0) gs31 (wI M6 75 0 0) := cw_I h6 (by decide)
  generalize (wI M6 75 0 0) = M7 at h7 ⊢
  refine a_aload_n dX5_collect_85 rfl rfl ?_
  refine a_get (v := .ref 76) dX5_collect_86 fl_5_17 (cw_l h7 (by decide)) (cw_s h7 (by decide) rfl) (cw_g h7 rfl (by decide +kernel)) ?_
  refine a_aload_n dX5_collect_89 rfl rfl ?_
  refine a_get (v := .int 0) dX5_collect_90 fl_5_51 (cw_l h7 (by decide)) (cw_s h7 (by decide) rfl) (cw_gi h7 rfl (by decide) (by first | decide +kernel | rfl)) ?_
  refine a_aload_n dX5_collect_93 rfl rfl ?_
  refine a_get (v := .ref 2) dX5_collect_94 fl_5_30 (cw_l h7 (by decide)) (cw_s h7 (by decide) rfl) (cw_g h7 rfl (by decide +kernel)) ?_
  refine a_iload dX5_collect_97 rfl ?_
  refine a_callV (As := [.int 0]) (st := [.int 0, .ref 76]) (a := 2) (ci := 1) (bc := 0) (bs := 0) (mc := 0) (ms := 0) false dX5_collect_99 mw_X1_kindOf rfl (Or.inl ⟨rfl, ml_X5_58⟩) im_X1_kindOf se_X1_kindOf (by decide) (cw_l h7 (by decide)) (cw_s h7 (by decide) rfl) rfl (Nat.le_of_ble_eq_true rfl) (z1014_X1_kindOf (fr := fr)  h7) (fun v M8 hq => ?_)
  obtain ⟨rfl, h8⟩ := hq
  show AW X _ 0 0 102 _ [.int 0, .int 0, .ref 76] _ _
  refine a_iastore dX5_collect_102 (cw_l h8 (by decide)) (cw_s h8 (by decide) rfl) (by unfold vp_in; decide +kernel) ?_
  rw [show Int32.toNatClampNeg 0 = 0 from by decide +kernel]
  have h9 : Cw 126 Lj134 (up2 (up2 (up2 (up2 (up2 fs42 2 8 1) 8 0 1) 74 6 0) 75 0 0) 76 0 0) gs31 (wI M8 76 0 0) := cw_I h8 (by decide)
  generalize (wI M8 76 0 0) = M9 at h9 ⊢
  refine a_aload_n dX5_collect_103 rfl rfl ?_
  refine a_get (v := .ref 77) dX5_collect_104 fl_5_20 (cw_l h9 (by decide)) (cw_s h9 (by decide) rfl) (cw_g h9 rfl (by decide +kernel)) ?_
  refine a_aload_n dX5_collect_107 rfl rfl ?_
  refine a_get (v := .int 0) dX5_collect_108 fl_5_51 (cw_l h9 (by decide)) (cw_s h9 (by decide) rfl) (cw_gi h9 rfl (by decide) (by first | decide +kernel | rfl)) ?_
  refine a_aload_n dX5_collect_111 rfl rfl ?_
  refine a_aload_n dX5_collect_112 rfl rfl ?_
  refine a_get (v := .ref 2) dX5_collect_113 fl_5_30 (cw_l h9 (by decide)) (cw_s h9 (by decide) rfl) (cw_g h9 rfl (by decide +kernel)) ?_
  refine a_iload dX5_collect_116 rfl ?_
  refine a_callV (As := [.int 0]) (st := [.ref 74, .int 0, .ref 77]) (a := 2) (ci := 1) (bc := 0) (bs := 0) (mc := 0) (ms := 0) false dX5_collect_118 mw_X1_leftOf rfl (Or.inl ⟨rfl, ml_X5_62⟩) im_X1_leftOf se_X1_leftOf (by decide) (cw_l h9 (by decide)) (cw_s h9 (by decide) rfl) rfl (Nat.le_of_ble_eq_true rfl) (z1015_X1_leftOf (fr := fr)  h9) (fun v M10 hq => ?_)
  obtain ⟨rfl, h10⟩ := hq
  show AW X _ 0 0 121 _ [.int (-1), .ref 74, .int 0, .ref 77] _ _
  refine a_callV (As := [.int (-1)]) (st := [.int 0, .ref 77]) (a := 74) (ci := 5) (bc := 0) (bs := 0) (mc := 0) (ms := 0) false dX5_collect_121 mw_X5_spotOf rfl (Or.inl ⟨rfl, ml_X5_65⟩) im_X5_spotOf se_X5_spotOf (by decide) (cw_l h10 (by decide)) (cw_s h10 (by decide) rfl) rfl (Nat.le_of_ble_eq_true rfl) (z1016_X5_spotOf (fr := fr)  h10) (fun v M11 hq => ?_)
  obtain ⟨rfl, h11⟩ := hq
  show AW X _ 0 0 124 _ [.int (-1), .int 0, .ref 77] _ _
  refine a_iastore dX5_collect_124 (cw_l h11 (by decide)) (cw_s h11 (by decide) rfl) (by unfold vp_in; decide +kernel) ?_
  rw [show Int32.toNatClampNeg 0 = 0 from by decide +kernel]
  have h12 : Cw 126 Lj134 (up2 (up2 (up2 (up2 (up2 (up2 fs42 2 8 1) 8 0 1) 74 6 0) 75 0 0) 76 0 0) 77 0 (-1)) gs31 (wI M11 77 0 (-1)) := cw_I h11 (by decide)
  generalize (wI M11 77 0 (-1)) = M12 at h12 ⊢
  refine a_aload_n dX5_collect_125 rfl rfl ?_
  refine a_get (v := .ref 78) dX5_collect_126 fl_5_23 (cw_l h12 (by decide)) (cw_s h12 (by decide) rfl) (cw_g h12 rfl (by decide +kernel)) ?_
  refine a_aload_n dX5_collect_129 rfl rfl ?_
  refine a_get (v := .int 0) dX5_collect_130 fl_5_51 (cw_l h12 (by decide)) (cw_s h12 (by decide) rfl) (cw_gi h12 rfl (by decide) (by first | decide +kernel | rfl)) ?_
  refine a_aload_n dX5_collect_133 rfl rfl ?_
  refine a_aload_n dX5_collect_134 rfl rfl ?_
  refine a_get (v := .ref 2) dX5_collect_135 fl_5_30 (cw_l h12 (by decide)) (cw_s h12 (by decide) rfl) (cw_g h12 rfl (by decide +kernel)) ?_
  refine a_iload dX5_collect_138 rfl ?_
  refine a_callV (As := [.int 0]) (st := [.ref 74, .int 0, .ref 78]) (a := 2) (ci := 1) (bc := 0) (bs := 0) (mc := 0) (ms := 0) false dX5_collect_140 mw_X1_rightOf rfl (Or.inl ⟨rfl, ml_X5_68⟩) im_X1_rightOf se_X1_rightOf (by decide) (cw_l h12 (by decide)) (cw_s h12 (by decide) rfl) rfl (Nat.le_of_ble_eq_true rfl) (z1018_X1_rightOf (fr := fr)  h12) (fun v M13 hq => ?_)
  obtain ⟨rfl, h13⟩ := hq
  show AW X _ 0 0 143 _ [.int (-1), .ref 74, .int 0, .ref 78] _ _
  refine a_callV (As := [.int (-1)]) (st := [.int 0, .ref 78]) (a := 74) (ci := 5) (bc := 0) (bs := 0) (mc := 0) (ms := 0) false dX5_collect_143 mw_X5_spotOf rfl (Or.inl ⟨rfl, ml_X5_65⟩) im_X5_spotOf se_X5_spotOf (by decide) (cw_l h13 (by decide)) (cw_s h13 (by decide) rfl) rfl (Nat.le_of_ble_eq_true rfl) (z1019_X5_spotOf (fr := fr)  h13) (fun v M14 hq => ?_)
  obtain ⟨rfl, h14⟩ := hq
  show AW X _ 0 0 146 _ [.int (-1), .int 0, .ref 78] _ _
  refine a_iastore dX5_collect_146 (cw_l h14 (by decide)) (cw_s h14 (by decide) rfl) (by unfold vp_in; decide +kernel) ?_
  rw [show Int32.toNatClampNeg 0 = 0 from by decide +kernel]
  have h15 : Cw 126 Lj134 (up2 (up2 (up2 (up2 (up2 (up2 (up2 fs42 2 8 1) 8 0 1) 74 6 0) 75 0 0) 76 0 0) 77 0 (-1)) 78 0 (-1)) gs31 (wI M14 78 0 (-1)) := cw_I h14 (by decide)
  generalize (wI M14 78 0 (-1)) = M15 at h15 ⊢
  refine a_aload_n dX5_collect_147 rfl rfl ?_
  refine a_dup dX5_collect_148 rfl ?_
  refine a_get (v := .int 0) dX5_collect_149 fl_5_51 (cw_l h15 (by decide)) (cw_s h15 (by decide) rfl) (cw_gi h15 rfl (by decide) (by first | decide +kernel | rfl)) ?_
  refine a_iconst (v := 1) dX5_collect_152 (by decide) ?_
  refine a_iadd dX5_collect_153 ?_
  refine a_st (st2 := [.int 1, .ref 74]) (by decide +kernel) ?_
  refine a_putI dX5_collect_154 (Or.inl ⟨fl_5_51, Or.inl rfl⟩) rfl (cw_l h15 (by decide)) (cw_s h15 (by decide) rfl) rfl rfl ?_
  have h16 : Cw 126 Lj134 (up2 (up2 (up2 (up2 (up2 (up2 (up2 (up2 fs42 2 8 1) 8 0 1) 74 6 0) 75 0 0) 76 0 0) 77 0 (-1)) 78 0 (-1)) 74 6 1) gs31 (wI M15 74 6 1) := cw_I h15 (by decide)
  generalize (wI M15 74 6 1) = M16 at h16 ⊢
  refine a_iinc (v := 0) dX5_collect_157 rfl (by decide) (Nat.le_of_ble_eq_true rfl) (lv2 := [(3, .int 0), (4, .int 0), (0, .ref 74), (1, .ref 10), (2, .int 0)]) rfl ?_
  refine a_iinc (v := 1) dX5_collect_160 rfl (by decide) (Nat.le_of_ble_eq_true rfl) (lv2 := [(4, .int 1), (3, .int 0), (0, .ref 74), (1, .ref 10), (2, .int 0)]) rfl ?_
  refine a_goto 40 dX5_collect_163 (by decide) ?_
  refine a_iload dX5_collect_40 rfl ?_
  refine a_sipush (v := 5200) dX5_collect_42 (by decide) ?_
  refine a_icmp_ge 166 dX5_collect_45 (by decide) (fun c => absurd c (by decide)) (fun _ => ?_)
  refine a_iload_n dX5_collect_48 rfl rfl ?_
  refine a_if_le 166 dX5_collect_49 (by decide) (fun _ => ?_) (fun c => absurd (by decide) c)
  exact a_vret dX5_collect_166 rfl ⟨rfl, h16⟩
set_option maxHeartbeats 4000000 in
set_option maxRecDepth 100000 in
theorem z1024_X5_kindAt {X : Nat × (Nat → Int32)} {fr : Nat} {M : Mem}  (h0 : Cw 126 Lj134 (up2 (up2 (up2 (up2 (up2 (up2 (up2 (up2 fs42 2 8 1) 8 0 1) 74 6 0) 75 0 0) 76 0 0) 77 0 (-1)) 78 0 (-1)) 74 6 1) gs31 M) : AM yX5_kindAt cX5_kindAt 2 (some .int) true (fr + 4) 0 0 X [.ref 74, .int 0] M (fun v M1 => v = some (.int 0) ∧ Cw 126 Lj134 (up2 (up2 (up2 (up2 (up2 (up2 (up2 (up2 fs42 2 8 1) 8 0 1) 74 6 0) 75 0 0) 76 0 0) 77 0 (-1)) 78 0 (-1)) 74 6 1) gs31 M1) := by
  refine AM.of false (by decide +kernel) (by intro h; cases h) (Nat.le_of_ble_eq_true rfl) ?_
  show AW X (RX5, cX5_kindAt, 2, (some .int), false, true, fr + 4) 0 0 0 [(0, .ref 74), (1, .int 0)] [] M _
  refine a_iload_n dX5_kindAt_0 rfl rfl ?_
  refine a_if_lt 28 dX5_kindAt_1 (by decide) (fun c => absurd c (by decide)) (fun _ => ?_)
  refine a_iload_n dX5_kindAt_4 rfl rfl ?_
  refine a_aload_n dX5_kindAt_5 rfl rfl ?_
  refine a_get (v := .int 1) dX5_kindAt_6 fl_5_51 (cw_l h0 (by decide)) (cw_s h0 (by decide) rfl) (cw_gi h0 rfl (by decide) (by first | decide +kernel | rfl)) ?_
  refine a_icmp_ge 28 dX5_kindAt_9 (by decide) (fun c => absurd c (by decide)) (fun _ => ?_)
  refine a_iload_n dX5_kindAt_12 rfl rfl ?_
  refine a_sipush (v := 420) dX5_kindAt_13 (by decide) ?_
  refine a_icmp_ge 28 dX5_kindAt_16 (by decide) (fun c => absurd c (by decide)) (fun _ => ?_)
  refine a_aload_n dX5_kindAt_19 rfl rfl ?_
  refine a_get (v := .ref 76) dX5_kindAt_20 fl_5_17 (cw_l h0 (by decide)) (cw_s h0 (by decide) rfl) (cw_g h0 rfl (by decide +kernel)) ?_
  refine a_iload_n dX5_kindAt_23 rfl rfl ?_
  refine a_iaload dX5_kindAt_24 (cw_l h0 (by decide)) (cw_s h0 (by decide) rfl) (by unfold vp_in; decide +kernel) ?_
  rw [show M.2.2.1 76 (Int32.toNatClampNeg 0) = 0 from (cw_i h0 (by decide)).trans (by first | decide +kernel | rfl)]
  refine a_goto 29 dX5_kindAt_25 (by decide) ?_
  exact a_iret dX5_kindAt_29 rfl ⟨rfl, h0⟩
set_option maxHeartbeats 4000000 in
set_option maxRecDepth 100000 in
theorem z1023_X5_truthOf {X : Nat × (Nat → Int32)} {fr : Nat} {M : Mem}  (h0 : Cw 126 Lj134 (up2 (up2 (up2 (up2 (up2 (up2 (up2 (up2 fs42 2 8 1) 8 0 1) 74 6 0) 75 0 0) 76 0 0) 77 0 (-1)) 78 0 (-1)) 74 6 1) gs31 M) : AM yX5_truthOf cX5_truthOf 4 (some .long) true (fr + 5) 0 0 X [.ref 74, .int 0, .int 0] M (fun v M1 => v = some (.long (-6148914691236517206)) ∧ Cw 126 Lj134 (up2 (up2 (up2 (up2 (up2 (up2 (up2 (up2 fs42 2 8 1) 8 0 1) 74 6 0) 75 0 0) 76 0 0) 77 0 (-1)) 78 0 (-1)) 74 6 1) gs31 M1) := by
  refine AM.of false (by decide +kernel) (by intro h; cases h) (Nat.le_of_ble_eq_true rfl) ?_
  show AW X (RX5, cX5_truthOf, 4, (some .long), false, true, fr + 5) 0 0 0 [(0, .ref 74), (1, .int 0), (2, .int 0)] [] M _
  refine a_aload_n dX5_truthOf_0 rfl rfl ?_
  refine a_iload_n dX5_truthOf_1 rfl rfl ?_
  refine a_callV (As := [.int 0]) (st := []) (a := 74) (ci := 5) (bc := 0) (bs := 0) (mc := 0) (ms := 0) false dX5_truthOf_2 mw_X5_kindAt rfl (Or.inl ⟨rfl, ml_X5_93⟩) im_X5_kindAt se_X5_kindAt (by decide) (cw_l h0 (by decide)) (cw_s h0 (by decide) rfl) rfl (Nat.le_of_ble_eq_true rfl) (z1024_X5_kindAt (fr := fr)  h0) (fun v M1 hq => ?_)
  obtain ⟨rfl, h1⟩ := hq
  show AW X _ 0 0 5 _ [.int 0] _ _
  refine a_istore_n dX5_truthOf_5 rfl (Nat.le_of_ble_eq_true rfl) (lv2 := [(3, .int 0), (0, .ref 74), (1, .int 0), (2, .int 0)]) rfl ?_
  refine a_iload_n dX5_truthOf_6 rfl rfl ?_
  refine a_tableOut 102 dX5_truthOf_7 (by decide +kernel) (by decide) ?_
  refine a_iload_n dX5_truthOf_102 rfl rfl ?_
  refine a_if_lt 118 dX5_truthOf_103 (by decide) (fun c => absurd c (by decide)) (fun _ => ?_)
  refine a_iload_n dX5_truthOf_106 rfl rfl ?_
  refine a_bipush (v := 6) dX5_truthOf_107 (by decide) ?_
  refine a_icmp_ge 118 dX5_truthOf_109 (by decide) (fun c => absurd c (by decide)) (fun _ => ?_)
  refine a_stAP dX5_truthOf_112 sf_X5_102 ?_
  refine a_iload_n dX5_truthOf_115 rfl rfl ?_
  refine a_ldAP dX5_truthOf_116 (by unfold vp_in; decide +kernel) ?_
  refine a_st (st2 := [.long (-6148914691236517206)]) (by decide +kernel) ?_
  exact a_lret dX5_truthOf_117 rfl ⟨rfl, h1⟩
set_option maxHeartbeats 4000000 in
set_option maxRecDepth 100000 in
theorem z1022_X5_fillTruths {X : Nat × (Nat → Int32)} {fr : Nat} {M : Mem}  (h0 : Cw 126 Lj134 (up2 (up2 (up2 (up2 (up2 (up2 (up2 (up2 fs42 2 8 1) 8 0 1) 74 6 0) 75 0 0) 76 0 0) 77 0 (-1)) 78 0 (-1)) 74 6 1) gs31 M) : AM yX5_fillTruths cX5_fillTruths 3 none true (fr + 6) 0 0 X [.ref 74, .int 0] M (fun v M1 => v = none ∧ Cw 126 Lj134 (up2 (up2 (up2 (up2 (up2 (up2 (up2 (up2 fs42 2 8 1) 8 0 1) 74 6 0) 75 0 0) 76 0 0) 77 0 (-1)) 78 0 (-1)) 74 6 1) (up2 gs31 79 0 (-6148914691236517206)) M1) := by
  refine AM.of false (by decide +kernel) (by intro h; cases h) (Nat.le_of_ble_eq_true rfl) ?_
  show AW X (RX5, cX5_fillTruths, 3, none, false, true, fr + 6) 0 0 0 [(0, .ref 74), (1, .int 0)] [] M _
  refine a_iconst (v := 0) dX5_fillTruths_0 (by decide) ?_
  refine a_istore_n dX5_fillTruths_1 rfl (Nat.le_of_ble_eq_true rfl) (lv2 := [(2, .int 0), (0, .ref 74), (1, .int 0)]) rfl ?_
  refine a_iload_n dX5_fillTruths_2 rfl rfl ?_
  refine a_aload_n dX5_fillTruths_3 rfl rfl ?_
  refine a_get (v := .int 1) dX5_fillTruths_4 fl_5_51 (cw_l h0 (by decide)) (cw_s h0 (by decide) rfl) (cw_gi h0 rfl (by decide) (by first | decide +kernel | rfl)) ?_
  refine a_icmp_ge 35 dX5_fillTruths_7 (by decide) (fun c => absurd c (by decide)) (fun _ => ?_)
  refine a_iload_n dX5_fillTruths_10 rfl rfl ?_
  refine a_sipush (v := 420) dX5_fillTruths_11 (by decide) ?_
  refine a_icmp_ge 35 dX5_fillTruths_14 (by decide) (fun c => absurd c (by decide)) (fun _ => ?_)
  refine a_aload_n dX5_fillTruths_17 rfl rfl ?_
  refine a_get (v := .ref 79) dX5_fillTruths_18 fl_5_26 (cw_l h0 (by decide)) (cw_s h0 (by decide) rfl) (cw_g h0 rfl (by decide +kernel)) ?_
  refine a_iload_n dX5_fillTruths_21 rfl rfl ?_
  refine a_aload_n dX5_fillTruths_22 rfl rfl ?_
  refine a_iload_n dX5_fillTruths_23 rfl rfl ?_
  refine a_iload_n dX5_fillTruths_24 rfl rfl ?_
  refine a_callV (As := [.int 0, .int 0]) (st := [.int 0, .ref 79]) (a := 74) (ci := 5) (bc := 0) (bs := 0) (mc := 0) (ms := 0) false dX5_fillTruths_25 mw_X5_truthOf rfl (Or.inl ⟨rfl, ml_X5_89⟩) im_X5_truthOf se_X5_truthOf (by decide) (cw_l h0 (by decide)) (cw_s h0 (by decide) rfl) rfl (Nat.le_of_ble_eq_true rfl) (z1023_X5_truthOf (fr := fr)  h0) (fun v M1 hq => ?_)
  obtain ⟨rfl, h1⟩ := hq
  show AW X _ 0 0 28 _ [.long (-6148914691236517206), .int 0, .ref 79] _ _
  refine a_lastore dX5_fillTruths_28 (cw_l h1 (by decide)) (cw_s h1 (by decide) rfl) (by unfold vp_in; decide +kernel) ?_
  rw [show Int32.toNatClampNeg 0 = 0 from by decide +kernel]
  have h2 : Cw 126 Lj134 (up2 (up2 (up2 (up2 (up2 (up2 (up2 (up2 fs42 2 8 1) 8 0 1) 74 6 0) 75 0 0) 76 0 0) 77 0 (-1)) 78 0 (-1)) 74 6 1) (up2 gs31 79 0 (-6148914691236517206)) (wJ M1 79 0 (-6148914691236517206)) := cw_J h1 (by decide)
  generalize (wJ M1 79 0 (-6148914691236517206)) = M2 at h2 ⊢
  refine a_iinc (v := 1) dX5_fillTruths_29 rfl (by decide) (Nat.le_of_ble_eq_true rfl) (lv2 := [(2, .int 1), (0, .ref 74), (1, .int 0)]) rfl ?_
  refine a_goto 2 dX5_fillTruths_32 (by decide) ?_
  refine a_iload_n dX5_fillTruths_2 rfl rfl ?_
  refine a_aload_n dX5_fillTruths_3 rfl rfl ?_
  refine a_get (v := .int 1) dX5_fillTruths_4 fl_5_51 (cw_l h2 (by decide)) (cw_s h2 (by decide) rfl) (cw_gi h2 rfl (by decide) (by first | decide +kernel | rfl)) ?_
  refine a_icmp_ge 35 dX5_fillTruths_7 (by decide) (fun _ => ?_) (fun c => absurd (by decide) c)
  exact a_vret dX5_fillTruths_35 rfl ⟨rfl, h2⟩
set_option maxHeartbeats 4000000 in
set_option maxRecDepth 100000 in
theorem z1026_X10_at {X : Nat × (Nat → Int32)} {fr : Nat} {M : Mem}  (h0 : Cw 126 Lj134 (up2 (up2 (up2 (up2 (up2 (up2 (up2 (up2 fs42 2 8 1) 8 0 1) 74 6 0) 75 0 0) 76 0 0) 77 0 (-1)) 78 0 (-1)) 74 6 1) (up2 gs31 79 0 (-6148914691236517206)) M) : AM yX10_at cX10_at 2 (some .int) true (fr + 5) 0 0 X [.ref 75, .int 0] M (fun v M1 => v = some (.int 0) ∧ Cw 126 Lj134 (up2 (up2 (up2 (up2 (up2 (up2 (up2 (up2 fs42 2 8 1) 8 0 1) 74 6 0) 75 0 0) 76 0 0) 77 0 (-1)) 78 0 (-1)) 74 6 1) (up2 gs31 79 0 (-6148914691236517206)) M1) := by
  refine AM.of false (by decide +kernel) (by intro h; cases h) (Nat.le_of_ble_eq_true rfl) ?_
  show AW X (RX10, cX10_at, 2, (some .int), false, true, fr + 5) 0 0 0 [(0, .ref 75), (1, .int 0)] [] M _
  refine a_iload_n dX10_at_0 rfl rfl ?_
  refine a_if_lt 16 dX10_at_1 (by decide) (fun c => absurd c (by decide)) (fun _ => ?_)
  refine a_iload_n dX10_at_4 rfl rfl ?_
  refine a_aload_n dX10_at_5 rfl rfl ?_
  refine a_alen (v := 5200) (by decide) dX10_at_6 (cw_l h0 (by decide)) (cw_s h0 (by decide) rfl) (by decide) ?_
  refine a_icmp_ge 16 dX10_at_7 (by decide) (fun c => absurd c (by decide)) (fun _ => ?_)
  refine a_aload_n dX10_at_10 rfl rfl ?_
  refine a_iload_n dX10_at_11 rfl rfl ?_
  refine a_iaload dX10_at_12 (cw_l h0 (by decide)) (cw_s h0 (by decide) rfl) (by unfold vp_in; decide +kernel) ?_
  rw [show M.2.2.1 75 (Int32.toNatClampNeg 0) = 0 from (cw_i h0 (by decide)).trans (by first | decide +kernel | rfl)]
  refine a_goto 17 dX10_at_13 (by decide) ?_
  exact a_iret dX10_at_17 rfl ⟨rfl, h0⟩
set_option maxHeartbeats 4000000 in
set_option maxRecDepth 100000 in
theorem z1025_X5_spotOf {X : Nat × (Nat → Int32)} {fr : Nat} {M : Mem}  (h0 : Cw 126 Lj134 (up2 (up2 (up2 (up2 (up2 (up2 (up2 (up2 fs42 2 8 1) 8 0 1) 74 6 0) 75 0 0) 76 0 0) 77 0 (-1)) 78 0 (-1)) 74 6 1) (up2 gs31 79 0 (-6148914691236517206)) M) : AM yX5_spotOf cX5_spotOf 2 (some .int) true (fr + 6) 0 0 X [.ref 74, .int 0] M (fun v M1 => v = some (.int 0) ∧ Cw 126 Lj134 (up2 (up2 (up2 (up2 (up2 (up2 (up2 (up2 fs42 2 8 1) 8 0 1) 74 6 0) 75 0 0) 76 0 0) 77 0 (-1)) 78 0 (-1)) 74 6 1) (up2 gs31 79 0 (-6148914691236517206)) M1) := by
  refine AM.of false (by decide +kernel) (by intro h; cases h) (Nat.le_of_ble_eq_true rfl) ?_
  show AW X (RX5, cX5_spotOf, 2, (some .int), false, true, fr + 6) 0 0 0 [(0, .ref 74), (1, .int 0)] [] M _
  refine a_aload_n dX5_spotOf_0 rfl rfl ?_
  refine a_get (v := .ref 75) dX5_spotOf_1 fl_5_11 (cw_l h0 (by decide)) (cw_s h0 (by decide) rfl) (cw_g h0 rfl (by decide +kernel)) ?_
  refine a_iload_n dX5_spotOf_4 rfl rfl ?_
  refine a_callS (As := [.ref 75, .int 0]) (st := []) (bc := 0) (bs := 0) (mc := 0) (ms := 0) true dX5_spotOf_5 mw_X10_at rfl (Or.inr ⟨rfl, mn_X5_71⟩) sm_X10_at rfl (Nat.le_of_ble_eq_true rfl) (z1026_X10_at (fr := fr)  h0) (fun v M1 hq => ?_)
  obtain ⟨rfl, h1⟩ := hq
  show AW X _ 0 0 8 _ [.int 0] _ _
  exact a_iret dX5_spotOf_8 rfl ⟨rfl, h1⟩
set_option maxHeartbeats 4000000 in
set_option maxRecDepth 100000 in
theorem z1027_X5_truthAt {X : Nat × (Nat → Int32)} {fr : Nat} {M : Mem}  (h0 : Cw 126 Lj134 (up2 (up2 (up2 (up2 (up2 (up2 (up2 (up2 fs42 2 8 1) 8 0 1) 74 6 0) 75 0 0) 76 0 0) 77 0 (-1)) 78 0 (-1)) 74 6 1) (up2 gs31 79 0 (-6148914691236517206)) M) : AM yX5_truthAt cX5_truthAt 2 (some .long) true (fr + 6) 0 0 X [.ref 74, .int 0] M (fun v M1 => v = some (.long (-6148914691236517206)) ∧ Cw 126 Lj134 (up2 (up2 (up2 (up2 (up2 (up2 (up2 (up2 fs42 2 8 1) 8 0 1) 74 6 0) 75 0 0) 76 0 0) 77 0 (-1)) 78 0 (-1)) 74 6 1) (up2 gs31 79 0 (-6148914691236517206)) M1) := by
  refine AM.of false (by decide +kernel) (by intro h; cases h) (Nat.le_of_ble_eq_true rfl) ?_
  show AW X (RX5, cX5_truthAt, 2, (some .long), false, true, fr + 6) 0 0 0 [(0, .ref 74), (1, .int 0)] [] M _
  refine a_iload_n dX5_truthAt_0 rfl rfl ?_
  refine a_if_lt 28 dX5_truthAt_1 (by decide) (fun c => absurd c (by decide)) (fun _ => ?_)
  refine a_iload_n dX5_truthAt_4 rfl rfl ?_
  refine a_aload_n dX5_truthAt_5 rfl rfl ?_
  refine a_get (v := .int 1) dX5_truthAt_6 fl_5_51 (cw_l h0 (by decide)) (cw_s h0 (by decide) rfl) (cw_gi h0 rfl (by decide) (by first | decide +kernel | rfl)) ?_
  refine a_icmp_ge 28 dX5_truthAt_9 (by decide) (fun c => absurd c (by decide)) (fun _ => ?_)
  refine a_iload_n dX5_truthAt_12 rfl rfl ?_
  refine a_sipush (v := 420) dX5_truthAt_13 (by decide) ?_
  refine a_icmp_ge 28 dX5_truthAt_16 (by decide) (fun c => absurd c (by decide)) (fun _ => ?_)
  refine a_aload_n dX5_truthAt_19 rfl rfl ?_
  refine a_get (v := .ref 79) dX5_truthAt_20 fl_5_26 (cw_l h0 (by decide)) (cw_s h0 (by decide) rfl) (cw_g h0 rfl (by decide +kernel)) ?_
  refine a_iload_n dX5_truthAt_23 rfl rfl ?_
  refine a_laload dX5_truthAt_24 (cw_l h0 (by decide)) (cw_s h0 (by decide) rfl) (by unfold vp_in; decide +kernel) ?_
  rw [show M.2.2.2.1 79 (Int32.toNatClampNeg 0) = (-6148914691236517206) from (cw_j h0 (by decide)).trans (by decide +kernel)]
  refine a_goto 29 dX5_truthAt_25 (by decide) ?_
  exact a_lret dX5_truthAt_29 rfl ⟨rfl, h0⟩
set_option maxHeartbeats 4000000 in
set_option maxRecDepth 100000 in
theorem z1021_X5_leastAgainst {X : Nat × (Nat → Int32)} {fr : Nat} {M : Mem}  (h0 : Cw 126 Lj134 (up2 (up2 (up2 (up2 (up2 (up2 (up2 (up2 fs42 2 8 1) 8 0 1) 74 6 0) 75 0 0) 76 0 0) 77 0 (-1)) 78 0 (-1)) 74 6 1) gs31 M) : AM yX5_leastAgainst cX5_leastAgainst 7 (some .int) true (fr + 7) 0 0 X [.ref 74, .ref 10, .int 0] M (fun v M1 => v = some (.int 0) ∧ Cw 126 Lj134 (up2 (up2 (up2 (up2 (up2 (up2 (up2 (up2 fs42 2 8 1) 8 0 1) 74 6 0) 75 0 0) 76 0 0) 77 0 (-1)) 78 0 (-1)) 74 6 1) (up2 gs31 79 0 (-6148914691236517206)) M1) := by
  refine AM.of false (by decide +kernel) (by intro h; cases h) (Nat.le_of_ble_eq_true rfl) ?_
  show AW X (RX5, cX5_leastAgainst, 7, (some .int), false, true, fr + 7) 0 0 0 [(0, .ref 74), (1, .ref 10), (2, .int 0)] [] M _
  refine a_iconst (v := 0) dX5_leastAgainst_0 (by decide) ?_
  refine a_istore_n dX5_leastAgainst_1 rfl (Nat.le_of_ble_eq_true rfl) (lv2 := [(3, .int 0), (0, .ref 74), (1, .ref 10), (2, .int 0)]) rfl ?_
  refine a_iload_n dX5_leastAgainst_2 rfl rfl ?_
  refine a_iconst (v := 4) dX5_leastAgainst_3 (by decide) ?_
  refine a_icmp_ge 106 dX5_leastAgainst_4 (by decide) (fun c => absurd c (by decide)) (fun _ => ?_)
  refine a_aload_n dX5_leastAgainst_7 rfl rfl ?_
  refine a_iload_n dX5_leastAgainst_8 rfl rfl ?_
  refine a_callV (As := [.int 0]) (st := []) (a := 74) (ci := 5) (bc := 0) (bs := 0) (mc := 0) (ms := 0) false dX5_leastAgainst_9 mw_X5_fillTruths rfl (Or.inl ⟨rfl, ml_X5_75⟩) im_X5_fillTruths se_X5_fillTruths (by decide) (cw_l h0 (by decide)) (cw_s h0 (by decide) rfl) rfl (Nat.le_of_ble_eq_true rfl) (z1022_X5_fillTruths (fr := fr)  h0) (fun v M1 hq => ?_)
  obtain ⟨rfl, h1⟩ := hq
  refine a_aload_n dX5_leastAgainst_12 rfl rfl ?_
  refine a_aload_n dX5_leastAgainst_13 rfl rfl ?_
  refine a_iload_n dX5_leastAgainst_14 rfl rfl ?_
  refine a_callV (As := [.int 0]) (st := [.ref 74]) (a := 74) (ci := 5) (bc := 0) (bs := 0) (mc := 0) (ms := 0) false dX5_leastAgainst_15 mw_X5_spotOf rfl (Or.inl ⟨rfl, ml_X5_65⟩) im_X5_spotOf se_X5_spotOf (by decide) (cw_l h1 (by decide)) (cw_s h1 (by decide) rfl) rfl (Nat.le_of_ble_eq_true rfl) (z1025_X5_spotOf (fr := fr)  h1) (fun v M2 hq => ?_)
  obtain ⟨rfl, h2⟩ := hq
  show AW X _ 0 0 18 _ [.int 0, .ref 74] _ _
  refine a_callV (As := [.int 0]) (st := []) (a := 74) (ci := 5) (bc := 0) (bs := 0) (mc := 0) (ms := 0) false dX5_leastAgainst_18 mw_X5_truthAt rfl (Or.inl ⟨rfl, ml_X5_79⟩) im_X5_truthAt se_X5_truthAt (by decide) (cw_l h2 (by decide)) (cw_s h2 (by decide) rfl) rfl (Nat.le_of_ble_eq_true rfl) (z1027_X5_truthAt (fr := fr)  h2) (fun v M3 hq => ?_)
  obtain ⟨rfl, h3⟩ := hq
  show AW X _ 0 0 21 _ [.long (-6148914691236517206)] _ _
  refine a_ldc2 dX5_leastAgainst_21 co_X5_83 ?_
  refine a_lxor dX5_leastAgainst_24 ?_
  refine a_st (st2 := [.long 6148914691236517205]) (by decide +kernel) ?_
  refine a_lstore dX5_leastAgainst_25 (Nat.le_of_ble_eq_true rfl) (lv2 := [(4, .long 6148914691236517205), (3, .int 0), (0, .ref 74), (1, .ref 10), (2, .int 0)]) rfl ?_
  refine a_iconst (v := 0) dX5_leastAgainst_27 (by decide) ?_
  refine a_istore dX5_leastAgainst_28 (Nat.le_of_ble_eq_true rfl) (lv2 := [(6, .int 0), (4, .long 6148914691236517205), (3, .int 0), (0, .ref 74), (1, .ref 10), (2, .int 0)]) rfl ?_
  refine a_iload dX5_leastAgainst_30 rfl ?_
  refine a_aload_n dX5_leastAgainst_32 rfl rfl ?_
  refine a_getN (v := .int 0) dX5_leastAgainst_33 fn_5_85 (cw_l h3 (by decide)) (cw_s h3 (by decide) rfl) (cw_gi h3 rfl (by decide) (by first | decide +kernel | rfl)) ?_
  refine a_icmp_ge 64 dX5_leastAgainst_36 (by decide) (fun _ => ?_) (fun c => absurd (by decide) c)
  refine a_iconst (v := 0) dX5_leastAgainst_64 (by decide) ?_
  refine a_istore dX5_leastAgainst_65 (Nat.le_of_ble_eq_true rfl) (lv2 := [(6, .int 0), (4, .long 6148914691236517205), (3, .int 0), (0, .ref 74), (1, .ref 10), (2, .int 0)]) rfl ?_
  refine a_iload dX5_leastAgainst_67 rfl ?_
  refine a_bipush (v := 64) dX5_leastAgainst_69 (by decide) ?_
  refine a_icmp_ge 100 dX5_leastAgainst_71 (by decide) (fun c => absurd c (by decide)) (fun _ => ?_)
  refine a_lload dX5_leastAgainst_74 rfl ?_
  refine a_iload dX5_leastAgainst_76 rfl ?_
  refine a_lushr dX5_leastAgainst_78 ?_
  refine a_st (st2 := [.long 6148914691236517205]) (by decide +kernel) ?_
  refine a_lconst (v := 1) dX5_leastAgainst_79 (by decide) ?_
  refine a_land dX5_leastAgainst_80 ?_
  refine a_st (st2 := [.long 1]) (by decide +kernel) ?_
  refine a_lconst (v := 0) dX5_leastAgainst_81 (by decide) ?_
  refine a_lcmp dX5_leastAgainst_82 ?_
  refine a_st (st2 := [.int 1]) (by decide +kernel) ?_
  refine a_if_eq 94 dX5_leastAgainst_83 (by decide) (fun c => absurd c (by decide)) (fun _ => ?_)
  refine a_iload_n dX5_leastAgainst_86 rfl rfl ?_
  refine a_bipush (v := 64) dX5_leastAgainst_87 (by decide) ?_
  refine a_imul dX5_leastAgainst_89 ?_
  refine a_st (st2 := [.int 0]) (by decide +kernel) ?_
  refine a_iload dX5_leastAgainst_90 rfl ?_
  refine a_iadd dX5_leastAgainst_92 ?_
  refine a_st (st2 := [.int 0]) (by decide +kernel) ?_
  exact a_iret dX5_leastAgainst_93 rfl ⟨rfl, h3⟩
set_option maxHeartbeats 4000000 in
set_option maxRecDepth 100000 in
theorem p_against {X : Nat × (Nat → Int32)} {fr : Nat} {M : Mem}  (h0 : Cw 126 Lj134 fs42 gs31 M) : AM yX10_against cX10_against 1 (some .int) true (fr + 8) 0 0 X [.ref 0] M (fun v M1 => v = some (.int 0) ∧ Fm M1) := by
  refine AM.of false (by decide +kernel) (by intro h; cases h) (Nat.le_of_ble_eq_true rfl) ?_
  show AW X (RX10, cX10_against, 1, (some .int), false, true, fr + 8) 0 0 0 [(0, .ref 0)] [] M _
  refine a_aload_n dX10_against_0 rfl rfl ?_
  refine a_get (v := .ref 74) dX10_against_1 fl_10_86 (cw_l h0 (by decide)) (cw_s h0 (by decide) rfl) (cw_g h0 rfl (by decide +kernel)) ?_
  refine a_aload_n dX10_against_4 rfl rfl ?_
  refine a_get (v := .ref 10) dX10_against_5 fl_10_23 (cw_l h0 (by decide)) (cw_s h0 (by decide) rfl) (cw_g h0 rfl (by decide +kernel)) ?_
  refine a_aload_n dX10_against_8 rfl rfl ?_
  refine a_get (v := .int 0) dX10_against_9 fl_10_105 (cw_l h0 (by decide)) (cw_s h0 (by decide) rfl) (cw_gi h0 rfl (by decide) (by first | decide +kernel | rfl)) ?_
  refine a_callV (As := [.ref 10, .int 0]) (st := []) (a := 74) (ci := 5) (bc := 0) (bs := 0) (mc := 0) (ms := 0) false dX10_against_12 mw_X5_collect rfl (Or.inl ⟨rfl, ml_X10_323⟩) im_X5_collect se_X5_collect (by decide) (cw_l h0 (by decide)) (cw_s h0 (by decide) rfl) rfl (Nat.le_of_ble_eq_true rfl) (z1007_X5_collect (fr := fr)  h0) (fun v M1 hq => ?_)
  obtain ⟨rfl, h1⟩ := hq
  refine a_aload_n dX10_against_15 rfl rfl ?_
  refine a_get (v := .ref 74) dX10_against_16 fl_10_86 (cw_l h1 (by decide)) (cw_s h1 (by decide) rfl) (cw_g h1 rfl (by decide +kernel)) ?_
  refine a_aload_n dX10_against_19 rfl rfl ?_
  refine a_get (v := .ref 10) dX10_against_20 fl_10_23 (cw_l h1 (by decide)) (cw_s h1 (by decide) rfl) (cw_g h1 rfl (by decide +kernel)) ?_
  refine a_aload_n dX10_against_23 rfl rfl ?_
  refine a_get (v := .int 0) dX10_against_24 fl_10_105 (cw_l h1 (by decide)) (cw_s h1 (by decide) rfl) (cw_gi h1 rfl (by decide) (by first | decide +kernel | rfl)) ?_
  refine a_callV (As := [.ref 10, .int 0]) (st := []) (a := 74) (ci := 5) (bc := 0) (bs := 0) (mc := 0) (ms := 0) false dX10_against_27 mw_X5_leastAgainst rfl (Or.inl ⟨rfl, ml_X10_334⟩) im_X5_leastAgainst se_X5_leastAgainst (by decide) (cw_l h1 (by decide)) (cw_s h1 (by decide) rfl) rfl (Nat.le_of_ble_eq_true rfl) (z1021_X5_leastAgainst (fr := fr)  h1) (fun v M2 hq => ?_)
  obtain ⟨rfl, h2⟩ := hq
  show AW X _ 0 0 30 _ [.int 0] _ _
  exact a_iret dX10_against_30 rfl ⟨by first | rfl | decide +kernel | simp [*], fm_of h2 (fun a k ha => by solve | rfl | (repeat (first | rw [up2_a _ _ _ _ (by omega)] | rw [fZ_a (by omega)])))⟩
set_option maxHeartbeats 4000000 in
set_option maxRecDepth 100000 in
theorem z1030_X1_beginMarks {X : Nat × (Nat → Int32)} {fr : Nat} {M : Mem}  (h0 : Cw 126 Lj134 fs42 gs31 M) : AM yX1_beginMarks cX1_beginMarks 1 none true (fr + 5) 0 0 X [.ref 2] M (fun v M1 => v = none ∧ Cw 126 Lj134 (up2 fs42 2 8 1) gs31 M1) := by
  refine AM.of false (by decide +kernel) (by intro h; cases h) (Nat.le_of_ble_eq_true rfl) ?_
  show AW X (RX1, cX1_beginMarks, 1, none, false, true, fr + 5) 0 0 0 [(0, .ref 2)] [] M _
  refine a_aload_n dX1_beginMarks_0 rfl rfl ?_
  refine a_dup dX1_beginMarks_1 rfl ?_
  refine a_get (v := .int 0) dX1_beginMarks_2 fl_1_59 (cw_l h0 (by decide)) (cw_s h0 (by decide) rfl) (cw_gi h0 rfl (by decide) (by first | decide +kernel | rfl)) ?_
  refine a_iconst (v := 1) dX1_beginMarks_5 (by decide) ?_
  refine a_iadd dX1_beginMarks_6 ?_
  refine a_st (st2 := [.int 1, .ref 2]) (by decide +kernel) ?_
  refine a_putI dX1_beginMarks_7 (Or.inl ⟨fl_1_59, Or.inl rfl⟩) rfl (cw_l h0 (by decide)) (cw_s h0 (by decide) rfl) rfl rfl ?_
  have h1 : Cw 126 Lj134 (up2 fs42 2 8 1) gs31 (wI M 2 8 1) := cw_I h0 (by decide)
  generalize (wI M 2 8 1) = M1 at h1 ⊢
  exact a_vret dX1_beginMarks_10 rfl ⟨rfl, h1⟩
set_option maxHeartbeats 4000000 in
set_option maxRecDepth 100000 in
theorem z1031_X2_markFormulas {X : Nat × (Nat → Int32)} {fr : Nat} {M : Mem}  (h0 : Cw 126 Lj134 (up2 fs42 2 8 1) gs31 M) : AM yX2_markFormulas cX2_markFormulas 3 none true (fr + 5) 0 0 X [.ref 10, .ref 2] M (fun v M1 => v = none ∧ Cw 126 Lj134 (up2 fs42 2 8 1) gs31 M1) := by
  refine AM.of false (by decide +kernel) (by intro h; cases h) (Nat.le_of_ble_eq_true rfl) ?_
  show AW X (RX2, cX2_markFormulas, 3, none, false, true, fr + 5) 0 0 0 [(0, .ref 10), (1, .ref 2)] [] M _
  refine a_iconst (v := 0) dX2_markFormulas_0 (by decide) ?_
  refine a_istore_n dX2_markFormulas_1 rfl (Nat.le_of_ble_eq_true rfl) (lv2 := [(2, .int 0), (0, .ref 10), (1, .ref 2)]) rfl ?_
  refine a_iload_n dX2_markFormulas_2 rfl rfl ?_
  refine a_aload_n dX2_markFormulas_3 rfl rfl ?_
  refine a_get (v := .int 0) dX2_markFormulas_4 fl_2_21 (cw_l h0 (by decide)) (cw_s h0 (by decide) rfl) (cw_gi h0 rfl (by decide) (by first | decide +kernel | rfl)) ?_
  refine a_icmp_ge 33 dX2_markFormulas_7 (by decide) (fun _ => ?_) (fun c => absurd (by decide) c)
  exact a_vret dX2_markFormulas_33 rfl ⟨rfl, h0⟩
set_option maxHeartbeats 4000000 in
set_option maxRecDepth 100000 in
theorem z1032_X1_mark {X : Nat × (Nat → Int32)} {fr : Nat} {M : Mem}  (h0 : Cw 126 Lj134 (up2 fs42 2 8 1) gs31 M) : AM yX1_mark cX1_mark 2 (some .boolean) true (fr + 5) 0 0 X [.ref 2, .int 0] M (fun v M1 => v = some (.int 1) ∧ Cw 126 Lj134 (up2 (up2 fs42 2 8 1) 8 0 1) gs31 M1) := by
  refine AM.of false (by decide +kernel) (by intro h; cases h) (Nat.le_of_ble_eq_true rfl) ?_
  show AW X (RX1, cX1_mark, 2, (some .boolean), false, true, fr + 5) 0 0 0 [(0, .ref 2), (1, .int 0)] [] M _
  refine a_iload_n dX1_mark_0 rfl rfl ?_
  refine a_if_lt 25 dX1_mark_1 (by decide) (fun c => absurd c (by decide)) (fun _ => ?_)
  refine a_iload_n dX1_mark_4 rfl rfl ?_
  refine a_aload_n dX1_mark_5 rfl rfl ?_
  refine a_get (v := .int 9) dX1_mark_6 fl_1_38 (cw_l h0 (by decide)) (cw_s h0 (by decide) rfl) (cw_gi h0 rfl (by decide) (by first | decide +kernel | rfl)) ?_
  refine a_icmp_ge 25 dX1_mark_9 (by decide) (fun c => absurd c (by decide)) (fun _ => ?_)
  refine a_aload_n dX1_mark_12 rfl rfl ?_
  refine a_get (v := .ref 8) dX1_mark_13 fl_1_28 (cw_l h0 (by decide)) (cw_s h0 (by decide) rfl) (cw_g h0 rfl (by decide +kernel)) ?_
  refine a_iload_n dX1_mark_16 rfl rfl ?_
  refine a_iaload dX1_mark_17 (cw_l h0 (by decide)) (cw_s h0 (by decide) rfl) (by unfold vp_in; decide +kernel) ?_
  rw [show M.2.2.1 8 (Int32.toNatClampNeg 0) = 0 from (cw_i h0 (by decide)).trans (by first | decide +kernel | rfl)]
  refine a_aload_n dX1_mark_18 rfl rfl ?_
  refine a_get (v := .int 1) dX1_mark_19 fl_1_59 (cw_l h0 (by decide)) (cw_s h0 (by decide) rfl) (cw_gi h0 rfl (by decide) (by first | decide +kernel | rfl)) ?_
  refine a_icmp_ne 27 dX1_mark_22 (by decide) (fun _ => ?_) (fun c => absurd c (by decide))
  refine a_aload_n dX1_mark_27 rfl rfl ?_
  refine a_get (v := .ref 8) dX1_mark_28 fl_1_28 (cw_l h0 (by decide)) (cw_s h0 (by decide) rfl) (cw_g h0 rfl (by decide +kernel)) ?_
  refine a_iload_n dX1_mark_31 rfl rfl ?_
  refine a_aload_n dX1_mark_32 rfl rfl ?_
  refine a_get (v := .int 1) dX1_mark_33 fl_1_59 (cw_l h0 (by decide)) (cw_s h0 (by decide) rfl) (cw_gi h0 rfl (by decide) (by first | decide +kernel | rfl)) ?_
  refine a_iastore dX1_mark_36 (cw_l h0 (by decide)) (cw_s h0 (by decide) rfl) (by unfold vp_in; decide +kernel) ?_
  rw [show Int32.toNatClampNeg 0 = 0 from by decide +kernel]
  have h1 : Cw 126 Lj134 (up2 (up2 fs42 2 8 1) 8 0 1) gs31 (wI M 8 0 1) := cw_I h0 (by decide)
  generalize (wI M 8 0 1) = M1 at h1 ⊢
  refine a_iconst (v := 1) dX1_mark_37 (by decide) ?_
  exact a_zret dX1_mark_38 rfl (by decide) ⟨rfl, h1⟩
set_option maxHeartbeats 4000000 in
set_option maxRecDepth 100000 in
theorem z1034_X1_mark {X : Nat × (Nat → Int32)} {fr : Nat} {M : Mem}  (h0 : Cw 126 Lj134 (up2 (up2 fs42 2 8 1) 8 0 1) gs31 M) : AM yX1_mark cX1_mark 2 (some .boolean) true (fr + 4) 0 0 X [.ref 2, .int (-1)] M (fun v M1 => v = some (.int 0) ∧ Cw 126 Lj134 (up2 (up2 fs42 2 8 1) 8 0 1) gs31 M1) := by
  refine AM.of false (by decide +kernel) (by intro h; cases h) (Nat.le_of_ble_eq_true rfl) ?_
  show AW X (RX1, cX1_mark, 2, (some .boolean), false, true, fr + 4) 0 0 0 [(0, .ref 2), (1, .int (-1))] [] M _
  refine a_iload_n dX1_mark_0 rfl rfl ?_
  refine a_if_lt 25 dX1_mark_1 (by decide) (fun _ => ?_) (fun c => absurd (by decide) c)
  refine a_iconst (v := 0) dX1_mark_25 (by decide) ?_
  exact a_zret dX1_mark_26 rfl (by decide) ⟨rfl, h0⟩
set_option maxHeartbeats 4000000 in
set_option maxRecDepth 100000 in
theorem z1033_X1_markParts {X : Nat × (Nat → Int32)} {fr : Nat} {M : Mem}  (h0 : Cw 126 Lj134 (up2 (up2 fs42 2 8 1) 8 0 1) gs31 M) : AM yX1_markParts cX1_markParts 3 (some .int) true (fr + 5) 0 0 X [.ref 2] M (fun v M1 => v = some (.int 1) ∧ Cw 126 Lj134 (up2 (up2 fs42 2 8 1) 8 0 1) gs31 M1) := by
  refine AM.of false (by decide +kernel) (by intro h; cases h) (Nat.le_of_ble_eq_true rfl) ?_
  show AW X (RX1, cX1_markParts, 3, (some .int), false, true, fr + 5) 0 0 0 [(0, .ref 2)] [] M _
  refine a_iconst (v := 0) dX1_markParts_0 (by decide) ?_
  refine a_istore_n dX1_markParts_1 rfl (Nat.le_of_ble_eq_true rfl) (lv2 := [(1, .int 0), (0, .ref 2)]) rfl ?_
  refine a_aload_n dX1_markParts_2 rfl rfl ?_
  refine a_get (v := .int 9) dX1_markParts_3 fl_1_38 (cw_l h0 (by decide)) (cw_s h0 (by decide) rfl) (cw_gi h0 rfl (by decide) (by first | decide +kernel | rfl)) ?_
  refine a_iconst (v := 1) dX1_markParts_6 (by decide) ?_
  refine a_isub dX1_markParts_7 ?_
  refine a_st (st2 := [.int 8]) (by decide +kernel) ?_
  refine a_istore_n dX1_markParts_8 rfl (Nat.le_of_ble_eq_true rfl) (lv2 := [(2, .int 8), (1, .int 0), (0, .ref 2)]) rfl ?_
  refine a_iload_n dX1_markParts_9 rfl rfl ?_
  refine a_if_lt 57 dX1_markParts_10 (by decide) (fun c => absurd c (by decide)) (fun _ => ?_)
  refine a_aload_n dX1_markParts_13 rfl rfl ?_
  refine a_get (v := .ref 8) dX1_markParts_14 fl_1_28 (cw_l h0 (by decide)) (cw_s h0 (by decide) rfl) (cw_g h0 rfl (by decide +kernel)) ?_
  refine a_iload_n dX1_markParts_17 rfl rfl ?_
  refine a_iaload dX1_markParts_18 (cw_l h0 (by decide)) (cw_s h0 (by decide) rfl) (by unfold vp_in; decide +kernel) ?_
  rw [show M.2.2.1 8 (Int32.toNatClampNeg 8) = 0 from (cw_i h0 (by decide)).trans (by first | decide +kernel | rfl)]
  refine a_aload_n dX1_markParts_19 rfl rfl ?_
  refine a_get (v := .int 1) dX1_markParts_20 fl_1_59 (cw_l h0 (by decide)) (cw_s h0 (by decide) rfl) (cw_gi h0 rfl (by decide) (by first | decide +kernel | rfl)) ?_
  refine a_icmp_ne 51 dX1_markParts_23 (by decide) (fun _ => ?_) (fun c => absurd c (by decide))
  refine a_iinc (v := 7) dX1_markParts_51 rfl (by decide) (Nat.le_of_ble_eq_true rfl) (lv2 := [(2, .int 7), (1, .int 0), (0, .ref 2)]) rfl ?_
  refine a_goto 9 dX1_markParts_54 (by decide) ?_
  refine a_iload_n dX1_markParts_9 rfl rfl ?_
  refine a_if_lt 57 dX1_markParts_10 (by decide) (fun c => absurd c (by decide)) (fun _ => ?_)
  refine a_aload_n dX1_markParts_13 rfl rfl ?_
  refine a_get (v := .ref 8) dX1_markParts_14 fl_1_28 (cw_l h0 (by decide)) (cw_s h0 (by decide) rfl) (cw_g h0 rfl (by decide +kernel)) ?_
  refine a_iload_n dX1_markParts_17 rfl rfl ?_
  refine a_iaload dX1_markParts_18 (cw_l h0 (by decide)) (cw_s h0 (by decide) rfl) (by unfold vp_in; decide +kernel) ?_
  rw [show M.2.2.1 8 (Int32.toNatClampNeg 7) = 0 from (cw_i h0 (by decide)).trans (by first | decide +kernel | rfl)]
  refine a_aload_n dX1_markParts_19 rfl rfl ?_
  refine a_get (v := .int 1) dX1_markParts_20 fl_1_59 (cw_l h0 (by decide)) (cw_s h0 (by decide) rfl) (cw_gi h0 rfl (by decide) (by first | decide +kernel | rfl)) ?_
  refine a_icmp_ne 51 dX1_markParts_23 (by decide) (fun _ => ?_) (fun c => absurd c (by decide))
  refine a_iinc (v := 6) dX1_markParts_51 rfl (by decide) (Nat.le_of_ble_eq_true rfl) (lv2 := [(2, .int 6), (1, .int 0), (0, .ref 2)]) rfl ?_
  refine a_goto 9 dX1_markParts_54 (by decide) ?_
  refine a_iload_n dX1_markParts_9 rfl rfl ?_
  refine a_if_lt 57 dX1_markParts_10 (by decide) (fun c => absurd c (by decide)) (fun _ => ?_)
  refine a_aload_n dX1_markParts_13 rfl rfl ?_
  refine a_get (v := .ref 8) dX1_markParts_14 fl_1_28 (cw_l h0 (by decide)) (cw_s h0 (by decide) rfl) (cw_g h0 rfl (by decide +kernel)) ?_
  refine a_iload_n dX1_markParts_17 rfl rfl ?_
  refine a_iaload dX1_markParts_18 (cw_l h0 (by decide)) (cw_s h0 (by decide) rfl) (by unfold vp_in; decide +kernel) ?_
  rw [show M.2.2.1 8 (Int32.toNatClampNeg 6) = 0 from (cw_i h0 (by decide)).trans (by first | decide +kernel | rfl)]
  refine a_aload_n dX1_markParts_19 rfl rfl ?_
  refine a_get (v := .int 1) dX1_markParts_20 fl_1_59 (cw_l h0 (by decide)) (cw_s h0 (by decide) rfl) (cw_gi h0 rfl (by decide) (by first | decide +kernel | rfl)) ?_
  refine a_icmp_ne 51 dX1_markParts_23 (by decide) (fun _ => ?_) (fun c => absurd c (by decide))
  refine a_iinc (v := 5) dX1_markParts_51 rfl (by decide) (Nat.le_of_ble_eq_true rfl) (lv2 := [(2, .int 5), (1, .int 0), (0, .ref 2)]) rfl ?_
  refine a_goto 9 dX1_markParts_54 (by decide) ?_
  refine a_iload_n dX1_markParts_9 rfl rfl ?_
  refine a_if_lt 57 dX1_markParts_10 (by decide) (fun c => absurd c (by decide)) (fun _ => ?_)
  refine a_aload_n dX1_markParts_13 rfl rfl ?_
  refine a_get (v := .ref 8) dX1_markParts_14 fl_1_28 (cw_l h0 (by decide)) (cw_s h0 (by decide) rfl) (cw_g h0 rfl (by decide +kernel)) ?_
  refine a_iload_n dX1_markParts_17 rfl rfl ?_
  refine a_iaload dX1_markParts_18 (cw_l h0 (by decide)) (cw_s h0 (by decide) rfl) (by unfold vp_in; decide +kernel) ?_
  rw [show M.2.2.1 8 (Int32.toNatClampNeg 5) = 0 from (cw_i h0 (by decide)).trans (by first | decide +kernel | rfl)]
  refine a_aload_n dX1_markParts_19 rfl rfl ?_
  refine a_get (v := .int 1) dX1_markParts_20 fl_1_59 (cw_l h0 (by decide)) (cw_s h0 (by decide) rfl) (cw_gi h0 rfl (by decide) (by first | decide +kernel | rfl)) ?_
  refine a_icmp_ne 51 dX1_markParts_23 (by decide) (fun _ => ?_) (fun c => absurd c (by decide))
  refine a_iinc (v := 4) dX1_markParts_51 rfl (by decide) (Nat.le_of_ble_eq_true rfl) (lv2 := [(2, .int 4), (1, .int 0), (0, .ref 2)]) rfl ?_
  refine a_goto 9 dX1_markParts_54 (by decide) ?_
  refine a_iload_n dX1_markParts_9 rfl rfl ?_
  refine a_if_lt 57 dX1_markParts_10 (by decide) (fun c => absurd c (by decide)) (fun _ => ?_)
  refine a_aload_n dX1_markParts_13 rfl rfl ?_
  refine a_get (v := .ref 8) dX1_markParts_14 fl_1_28 (cw_l h0 (by decide)) (cw_s h0 (by decide) rfl) (cw_g h0 rfl (by decide +kernel)) ?_
  refine a_iload_n dX1_markParts_17 rfl rfl ?_
  refine a_iaload dX1_markParts_18 (cw_l h0 (by decide)) (cw_s h0 (by decide) rfl) (by unfold vp_in; decide +kernel) ?_
  rw [show M.2.2.1 8 (Int32.toNatClampNeg 4) = 0 from (cw_i h0 (by decide)).trans (by first | decide +kernel | rfl)]
  refine a_aload_n dX1_markParts_19 rfl rfl ?_
  refine a_get (v := .int 1) dX1_markParts_20 fl_1_59 (cw_l h0 (by decide)) (cw_s h0 (by decide) rfl) (cw_gi h0 rfl (by decide) (by first | decide +kernel | rfl)) ?_
  refine a_icmp_ne 51 dX1_markParts_23 (by decide) (fun _ => ?_) (fun c => absurd c (by decide))
  refine a_iinc (v := 3) dX1_markParts_51 rfl (by decide) (Nat.le_of_ble_eq_true rfl) (lv2 := [(2, .int 3), (1, .int 0), (0, .ref 2)]) rfl ?_
  refine a_goto 9 dX1_markParts_54 (by decide) ?_
  refine a_iload_n dX1_markParts_9 rfl rfl ?_
  refine a_if_lt 57 dX1_markParts_10 (by decide) (fun c => absurd c (by decide)) (fun _ => ?_)
  refine a_aload_n dX1_markParts_13 rfl rfl ?_
  refine a_get (v := .ref 8) dX1_markParts_14 fl_1_28 (cw_l h0 (by decide)) (cw_s h0 (by decide) rfl) (cw_g h0 rfl (by decide +kernel)) ?_
  refine a_iload_n dX1_markParts_17 rfl rfl ?_
  refine a_iaload dX1_markParts_18 (cw_l h0 (by decide)) (cw_s h0 (by decide) rfl) (by unfold vp_in; decide +kernel) ?_
  rw [show M.2.2.1 8 (Int32.toNatClampNeg 3) = 0 from (cw_i h0 (by decide)).trans (by first | decide +kernel | rfl)]
  refine a_aload_n dX1_markParts_19 rfl rfl ?_
  refine a_get (v := .int 1) dX1_markParts_20 fl_1_59 (cw_l h0 (by decide)) (cw_s h0 (by decide) rfl) (cw_gi h0 rfl (by decide) (by first | decide +kernel | rfl)) ?_
  refine a_icmp_ne 51 dX1_markParts_23 (by decide) (fun _ => ?_) (fun c => absurd c (by decide))
  refine a_iinc (v := 2) dX1_markParts_51 rfl (by decide) (Nat.le_of_ble_eq_true rfl) (lv2 := [(2, .int 2), (1, .int 0), (0, .ref 2)]) rfl ?_
  refine a_goto 9 dX1_markParts_54 (by decide) ?_
  refine a_iload_n dX1_markParts_9 rfl rfl ?_
  refine a_if_lt 57 dX1_markParts_10 (by decide) (fun c => absurd c (by decide)) (fun _ => ?_)
  refine a_aload_n dX1_markParts_13 rfl rfl ?_
  refine a_get (v := .ref 8) dX1_markParts_14 fl_1_28 (cw_l h0 (by decide)) (cw_s h0 (by decide) rfl) (cw_g h0 rfl (by decide +kernel)) ?_
  refine a_iload_n dX1_markParts_17 rfl rfl ?_
  refine a_iaload dX1_markParts_18 (cw_l h0 (by decide)) (cw_s h0 (by decide) rfl) (by unfold vp_in; decide +kernel) ?_
  rw [show M.2.2.1 8 (Int32.toNatClampNeg 2) = 0 from (cw_i h0 (by decide)).trans (by first | decide +kernel | rfl)]
  refine a_aload_n dX1_markParts_19 rfl rfl ?_
  refine a_get (v := .int 1) dX1_markParts_20 fl_1_59 (cw_l h0 (by decide)) (cw_s h0 (by decide) rfl) (cw_gi h0 rfl (by decide) (by first | decide +kernel | rfl)) ?_
  refine a_icmp_ne 51 dX1_markParts_23 (by decide) (fun _ => ?_) (fun c => absurd c (by decide))
  refine a_iinc (v := 1) dX1_markParts_51 rfl (by decide) (Nat.le_of_ble_eq_true rfl) (lv2 := [(2, .int 1), (1, .int 0), (0, .ref 2)]) rfl ?_
  refine a_goto 9 dX1_markParts_54 (by decide) ?_
  refine a_iload_n dX1_markParts_9 rfl rfl ?_
  refine a_if_lt 57 dX1_markParts_10 (by decide) (fun c => absurd c (by decide)) (fun _ => ?_)
  refine a_aload_n dX1_markParts_13 rfl rfl ?_
  refine a_get (v := .ref 8) dX1_markParts_14 fl_1_28 (cw_l h0 (by decide)) (cw_s h0 (by decide) rfl) (cw_g h0 rfl (by decide +kernel)) ?_
  refine a_iload_n dX1_markParts_17 rfl rfl ?_
  refine a_iaload dX1_markParts_18 (cw_l h0 (by decide)) (cw_s h0 (by decide) rfl) (by unfold vp_in; decide +kernel) ?_
  rw [show M.2.2.1 8 (Int32.toNatClampNeg 1) = 0 from (cw_i h0 (by decide)).trans (by first | decide +kernel | rfl)]
  refine a_aload_n dX1_markParts_19 rfl rfl ?_
  refine a_get (v := .int 1) dX1_markParts_20 fl_1_59 (cw_l h0 (by decide)) (cw_s h0 (by decide) rfl) (cw_gi h0 rfl (by decide) (by first | decide +kernel | rfl)) ?_
  refine a_icmp_ne 51 dX1_markParts_23 (by decide) (fun _ => ?_) (fun c => absurd c (by decide))
  refine a_iinc (v := 0) dX1_markParts_51 rfl (by decide) (Nat.le_of_ble_eq_true rfl) (lv2 := [(2, .int 0), (1, .int 0), (0, .ref 2)]) rfl ?_
  refine a_goto 9 dX1_markParts_54 (by decide) ?_
  refine a_iload_n dX1_markParts_9 rfl rfl ?_
  refine a_if_lt 57 dX1_markParts_10 (by decide) (fun c => absurd c (by decide)) (fun _ => ?_)
  refine a_aload_n dX1_markParts_13 rfl rfl ?_
  refine a_get (v := .ref 8) dX1_markParts_14 fl_1_28 (cw_l h0 (by decide)) (cw_s h0 (by decide) rfl) (cw_g h0 rfl (by decide +kernel)) ?_
  refine a_iload_n dX1_markParts_17 rfl rfl ?_
  refine a_iaload dX1_markParts_18 (cw_l h0 (by decide)) (cw_s h0 (by decide) rfl) (by unfold vp_in; decide +kernel) ?_
  rw [show M.2.2.1 8 (Int32.toNatClampNeg 0) = 1 from (cw_i h0 (by decide)).trans (by first | decide +kernel | rfl)]
  refine a_aload_n dX1_markParts_19 rfl rfl ?_
  refine a_get (v := .int 1) dX1_markParts_20 fl_1_59 (cw_l h0 (by decide)) (cw_s h0 (by decide) rfl) (cw_gi h0 rfl (by decide) (by first | decide +kernel | rfl)) ?_
  refine a_icmp_ne 51 dX1_markParts_23 (by decide) (fun c => absurd (by decide) c) (fun _ => ?_)
  refine a_aload_n dX1_markParts_26 rfl rfl ?_
  refine a_aload_n dX1_markParts_27 rfl rfl ?_
  refine a_get (v := .ref 4) dX1_markParts_28 fl_1_15 (cw_l h0 (by decide)) (cw_s h0 (by decide) rfl) (cw_g h0 rfl (by decide +kernel)) ?_
  refine a_iload_n dX1_markParts_31 rfl rfl ?_
  refine a_iaload dX1_markParts_32 (cw_l h0 (by decide)) (cw_s h0 (by decide) rfl) (by unfold vp_in; decide +kernel) ?_
  rw [show M.2.2.1 4 (Int32.toNatClampNeg 0) = (-1) from (cw_i h0 (by decide)).trans (by first | decide +kernel | rfl)]
  refine a_callV (As := [.int (-1)]) (st := []) (a := 2) (ci := 1) (bc := 0) (bs := 0) (mc := 0) (ms := 0) false dX1_markParts_33 mw_X1_mark rfl (Or.inl ⟨rfl, ml_X1_62⟩) im_X1_mark se_X1_mark (by decide) (cw_l h0 (by decide)) (cw_s h0 (by decide) rfl) rfl (Nat.le_of_ble_eq_true rfl) (z1034_X1_mark (fr := fr)  h0) (fun v M1 hq => ?_)
  obtain ⟨rfl, h1⟩ := hq
  show AW X _ 0 0 36 _ [.int 0] _ _
  refine a_pop dX1_markParts_36 rfl ?_
  refine a_aload_n dX1_markParts_37 rfl rfl ?_
  refine a_aload_n dX1_markParts_38 rfl rfl ?_
  refine a_get (v := .ref 5) dX1_markParts_39 fl_1_18 (cw_l h1 (by decide)) (cw_s h1 (by decide) rfl) (cw_g h1 rfl (by decide +kernel)) ?_
  refine a_iload_n dX1_markParts_42 rfl rfl ?_
  refine a_iaload dX1_markParts_43 (cw_l h1 (by decide)) (cw_s h1 (by decide) rfl) (by unfold vp_in; decide +kernel) ?_
  rw [show M1.2.2.1 5 (Int32.toNatClampNeg 0) = (-1) from (cw_i h1 (by decide)).trans (by first | decide +kernel | rfl)]
  refine a_callV (As := [.int (-1)]) (st := []) (a := 2) (ci := 1) (bc := 0) (bs := 0) (mc := 0) (ms := 0) false dX1_markParts_44 mw_X1_mark rfl (Or.inl ⟨rfl, ml_X1_62⟩) im_X1_mark se_X1_mark (by decide) (cw_l h1 (by decide)) (cw_s h1 (by decide) rfl) rfl (Nat.le_of_ble_eq_true rfl) (z1034_X1_mark (fr := fr)  h1) (fun v M2 hq => ?_)
  obtain ⟨rfl, h2⟩ := hq
  show AW X _ 0 0 47 _ [.int 0] _ _
  refine a_pop dX1_markParts_47 rfl ?_
  refine a_iinc (v := 1) dX1_markParts_48 rfl (by decide) (Nat.le_of_ble_eq_true rfl) (lv2 := [(1, .int 1), (2, .int 0), (0, .ref 2)]) rfl ?_
  refine a_iinc (v := (-1)) dX1_markParts_51 rfl (by decide) (Nat.le_of_ble_eq_true rfl) (lv2 := [(2, .int (-1)), (1, .int 1), (0, .ref 2)]) rfl ?_
  refine a_goto 9 dX1_markParts_54 (by decide) ?_
  refine a_iload_n dX1_markParts_9 rfl rfl ?_
  refine a_if_lt 57 dX1_markParts_10 (by decide) (fun _ => ?_) (fun c => absurd (by decide) c)
  refine a_iload_n dX1_markParts_57 rfl rfl ?_
  exact a_iret dX1_markParts_58 rfl ⟨rfl, h2⟩
set_option maxHeartbeats 4000000 in
set_option maxRecDepth 100000 in
theorem z1035_X1_isMarked {X : Nat × (Nat → Int32)} {fr : Nat} {M : Mem}  (h0 : Cw 126 Lj134 (up2 (up2 (up2 fs42 2 8 1) 8 0 1) 74 6 0) gs31 M) : AM yX1_isMarked cX1_isMarked 2 (some .boolean) true (fr + 5) 0 0 X [.ref 2, .int 0] M (fun v M1 => v = some (.int 1) ∧ Cw 126 Lj134 (up2 (up2 (up2 fs42 2 8 1) 8 0 1) 74 6 0) gs31 M1) := by
  refine AM.of false (by decide +kernel) (by intro h; cases h) (Nat.le_of_ble_eq_true rfl) ?_
  show AW X (RX1, cX1_isMarked, 2, (some .boolean), false, true, fr + 5) 0 0 0 [(0, .ref 2), (1, .int 0)] [] M _
  refine a_iload_n dX1_isMarked_0 rfl rfl ?_
  refine a_if_lt 29 dX1_isMarked_1 (by decide) (fun c => absurd c (by decide)) (fun _ => ?_)
  refine a_iload_n dX1_isMarked_4 rfl rfl ?_
  refine a_aload_n dX1_isMarked_5 rfl rfl ?_
  refine a_get (v := .int 9) dX1_isMarked_6 fl_1_38 (cw_l h0 (by decide)) (cw_s h0 (by decide) rfl) (cw_gi h0 rfl (by decide) (by first | decide +kernel | rfl)) ?_
  refine a_icmp_ge 29 dX1_isMarked_9 (by decide) (fun c => absurd c (by decide)) (fun _ => ?_)
  refine a_aload_n dX1_isMarked_12 rfl rfl ?_
  refine a_get (v := .ref 8) dX1_isMarked_13 fl_1_28 (cw_l h0 (by decide)) (cw_s h0 (by decide) rfl) (cw_g h0 rfl (by decide +kernel)) ?_
  refine a_iload_n dX1_isMarked_16 rfl rfl ?_
  refine a_iaload dX1_isMarked_17 (cw_l h0 (by decide)) (cw_s h0 (by decide) rfl) (by unfold vp_in; decide +kernel) ?_
  rw [show M.2.2.1 8 (Int32.toNatClampNeg 0) = 1 from (cw_i h0 (by decide)).trans (by first | decide +kernel | rfl)]
  refine a_aload_n dX1_isMarked_18 rfl rfl ?_
  refine a_get (v := .int 1) dX1_isMarked_19 fl_1_59 (cw_l h0 (by decide)) (cw_s h0 (by decide) rfl) (cw_gi h0 rfl (by decide) (by first | decide +kernel | rfl)) ?_
  refine a_icmp_ne 29 dX1_isMarked_22 (by decide) (fun c => absurd (by decide) c) (fun _ => ?_)
  refine a_iconst (v := 1) dX1_isMarked_25 (by decide) ?_
  refine a_goto 30 dX1_isMarked_26 (by decide) ?_
  exact a_zret dX1_isMarked_30 rfl (by decide) ⟨rfl, h0⟩
set_option maxHeartbeats 4000000 in
set_option maxRecDepth 100000 in
theorem z1036_X1_kindOf {X : Nat × (Nat → Int32)} {fr : Nat} {M : Mem}  (h0 : Cw 126 Lj134 (up2 (up2 (up2 (up2 fs42 2 8 1) 8 0 1) 74 6 0) 75 0 0) gs31 M) : AM yX1_kindOf cX1_kindOf 2 (some .int) true (fr + 5) 0 0 X [.ref 2, .int 0] M (fun v M1 => v = some (.int 0) ∧ Cw 126 Lj134 (up2 (up2 (up2 (up2 fs42 2 8 1) 8 0 1) 74 6 0) 75 0 0) gs31 M1) := by
  refine AM.of false (by decide +kernel) (by intro h; cases h) (Nat.le_of_ble_eq_true rfl) ?_
  show AW X (RX1, cX1_kindOf, 2, (some .int), false, true, fr + 5) 0 0 0 [(0, .ref 2), (1, .int 0)] [] M _
  refine a_iload_n dX1_kindOf_0 rfl rfl ?_
  refine a_if_lt 21 dX1_kindOf_1 (by decide) (fun c => absurd c (by decide)) (fun _ => ?_)
  refine a_iload_n dX1_kindOf_4 rfl rfl ?_
  refine a_aload_n dX1_kindOf_5 rfl rfl ?_
  refine a_get (v := .int 9) dX1_kindOf_6 fl_1_38 (cw_l h0 (by decide)) (cw_s h0 (by decide) rfl) (cw_gi h0 rfl (by decide) (by first | decide +kernel | rfl)) ?_
  refine a_icmp_ge 21 dX1_kindOf_9 (by decide) (fun c => absurd c (by decide)) (fun _ => ?_)
  refine a_aload_n dX1_kindOf_12 rfl rfl ?_
  refine a_get (v := .ref 3) dX1_kindOf_13 fl_1_11 (cw_l h0 (by decide)) (cw_s h0 (by decide) rfl) (cw_g h0 rfl (by decide +kernel)) ?_
  refine a_iload_n dX1_kindOf_16 rfl rfl ?_
  refine a_iaload dX1_kindOf_17 (cw_l h0 (by decide)) (cw_s h0 (by decide) rfl) (by unfold vp_in; decide +kernel) ?_
  rw [show M.2.2.1 3 (Int32.toNatClampNeg 0) = 0 from (cw_i h0 (by decide)).trans (by first | decide +kernel | rfl)]
  refine a_goto 22 dX1_kindOf_18 (by decide) ?_
  exact a_iret dX1_kindOf_22 rfl ⟨rfl, h0⟩
set_option maxHeartbeats 4000000 in
set_option maxRecDepth 100000 in
theorem z1037_X1_leftOf {X : Nat × (Nat → Int32)} {fr : Nat} {M : Mem}  (h0 : Cw 126 Lj134 (up2 (up2 (up2 (up2 (up2 fs42 2 8 1) 8 0 1) 74 6 0) 75 0 0) 76 0 0) gs31 M) : AM yX1_leftOf cX1_leftOf 2 (some .int) true (fr + 5) 0 0 X [.ref 2, .int 0] M (fun v M1 => v = some (.int (-1)) ∧ Cw 126 Lj134 (up2 (up2 (up2 (up2 (up2 fs42 2 8 1) 8 0 1) 74 6 0) 75 0 0) 76 0 0) gs31 M1) := by
  refine AM.of false (by decide +kernel) (by intro h; cases h) (Nat.le_of_ble_eq_true rfl) ?_
  show AW X (RX1, cX1_leftOf, 2, (some .int), false, true, fr + 5) 0 0 0 [(0, .ref 2), (1, .int 0)] [] M _
  refine a_iload_n dX1_leftOf_0 rfl rfl ?_
  refine a_if_lt 21 dX1_leftOf_1 (by decide) (fun c => absurd c (by decide)) (fun _ => ?_)
  refine a_iload_n dX1_leftOf_4 rfl rfl ?_
  refine a_aload_n dX1_leftOf_5 rfl rfl ?_
  refine a_get (v := .int 9) dX1_leftOf_6 fl_1_38 (cw_l h0 (by decide)) (cw_s h0 (by decide) rfl) (cw_gi h0 rfl (by decide) (by first | decide +kernel | rfl)) ?_
  refine a_icmp_ge 21 dX1_leftOf_9 (by decide) (fun c => absurd c (by decide)) (fun _ => ?_)
  refine a_aload_n dX1_leftOf_12 rfl rfl ?_
  refine a_get (v := .ref 4) dX1_leftOf_13 fl_1_15 (cw_l h0 (by decide)) (cw_s h0 (by decide) rfl) (cw_g h0 rfl (by decide +kernel)) ?_
  refine a_iload_n dX1_leftOf_16 rfl rfl ?_
  refine a_iaload dX1_leftOf_17 (cw_l h0 (by decide)) (cw_s h0 (by decide) rfl) (by unfold vp_in; decide +kernel) ?_
  rw [show M.2.2.1 4 (Int32.toNatClampNeg 0) = (-1) from (cw_i h0 (by decide)).trans (by first | decide +kernel | rfl)]
  refine a_goto 22 dX1_leftOf_18 (by decide) ?_
  exact a_iret dX1_leftOf_22 rfl ⟨rfl, h0⟩
set_option maxHeartbeats 4000000 in
set_option maxRecDepth 100000 in
theorem z1039_X10_at {X : Nat × (Nat → Int32)} {fr : Nat} {M : Mem}  (h0 : Cw 126 Lj134 (up2 (up2 (up2 (up2 (up2 fs42 2 8 1) 8 0 1) 74 6 0) 75 0 0) 76 0 0) gs31 M) : AM yX10_at cX10_at 2 (some .int) true (fr + 4) 0 0 X [.ref 75, .int (-1)] M (fun v M1 => v = some (.int (-1)) ∧ Cw 126 Lj134 (up2 (up2 (up2 (up2 (up2 fs42 2 8 1) 8 0 1) 74 6 0) 75 0 0) 76 0 0) gs31 M1) := by
  refine AM.of false (by decide +kernel) (by intro h; cases h) (Nat.le_of_ble_eq_true rfl) ?_
  show AW X (RX10, cX10_at, 2, (some .int), false, true, fr + 4) 0 0 0 [(0, .ref 75), (1, .int (-1))] [] M _
  refine a_iload_n dX10_at_0 rfl rfl ?_
  refine a_if_lt 16 dX10_at_1 (by decide) (fun _ => ?_) (fun c => absurd (by decide) c)
  refine a_iconst (v := (-1)) dX10_at_16 (by decide) ?_
  exact a_iret dX10_at_17 rfl ⟨rfl, h0⟩
set_option maxHeartbeats 4000000 in
set_option maxRecDepth 100000 in
theorem z1038_X5_spotOf {X : Nat × (Nat → Int32)} {fr : Nat} {M : Mem}  (h0 : Cw 126 Lj134 (up2 (up2 (up2 (up2 (up2 fs42 2 8 1) 8 0 1) 74 6 0) 75 0 0) 76 0 0) gs31 M) : AM yX5_spotOf cX5_spotOf 2 (some .int) true (fr + 5) 0 0 X [.ref 74, .int (-1)] M (fun v M1 => v = some (.int (-1)) ∧ Cw 126 Lj134 (up2 (up2 (up2 (up2 (up2 fs42 2 8 1) 8 0 1) 74 6 0) 75 0 0) 76 0 0) gs31 M1) := by
  refine AM.of false (by decide +kernel) (by intro h; cases h) (Nat.le_of_ble_eq_true rfl) ?_
  show AW X (RX5, cX5_spotOf, 2, (some .int), false, true, fr + 5) 0 0 0 [(0, .ref 74), (1, .int (-1))] [] M _
  refine a_aload_n dX5_spotOf_0 rfl rfl ?_
  refine a_get (v := .ref 75) dX5_spotOf_1 fl_5_11 (cw_l h0 (by decide)) (cw_s h0 (by decide) rfl) (cw_g h0 rfl (by decide +kernel)) ?_
  refine a_iload_n dX5_spotOf_4 rfl rfl ?_
  refine a_callS (As := [.ref 75, .int (-1)]) (st := []) (bc := 0) (bs := 0) (mc := 0) (ms := 0) true dX5_spotOf_5 mw_X10_at rfl (Or.inr ⟨rfl, mn_X5_71⟩) sm_X10_at rfl (Nat.le_of_ble_eq_true rfl) (z1039_X10_at (fr := fr)  h0) (fun v M1 hq => ?_)
  obtain ⟨rfl, h1⟩ := hq
  show AW X _ 0 0 8 _ [.int (-1)] _ _
  exact a_iret dX5_spotOf_8 rfl ⟨rfl, h1⟩
set_option maxHeartbeats 4000000 in
set_option maxRecDepth 100000 in
theorem z1040_X1_rightOf {X : Nat × (Nat → Int32)} {fr : Nat} {M : Mem}  (h0 : Cw 126 Lj134 (up2 (up2 (up2 (up2 (up2 (up2 fs42 2 8 1) 8 0 1) 74 6 0) 75 0 0) 76 0 0) 77 0 (-1)) gs31 M) : AM yX1_rightOf cX1_rightOf 2 (some .int) true (fr + 5) 0 0 X [.ref 2, .int 0] M (fun v M1 => v = some (.int (-1)) ∧ Cw 126 Lj134 (up2 (up2 (up2 (up2 (up2 (up2 fs42 2 8 1) 8 0 1) 74 6 0) 75 0 0) 76 0 0) 77 0 (-1)) gs31 M1) := by
  refine AM.of false (by decide +kernel) (by intro h; cases h) (Nat.le_of_ble_eq_true rfl) ?_
  show AW X (RX1, cX1_rightOf, 2, (some .int), false, true, fr + 5) 0 0 0 [(0, .ref 2), (1, .int 0)] [] M _
  refine a_iload_n dX1_rightOf_0 rfl rfl ?_
  refine a_if_lt 21 dX1_rightOf_1 (by decide) (fun c => absurd c (by decide)) (fun _ => ?_)
  refine a_iload_n dX1_rightOf_4 rfl rfl ?_
  refine a_aload_n dX1_rightOf_5 rfl rfl ?_
  refine a_get (v := .int 9) dX1_rightOf_6 fl_1_38 (cw_l h0 (by decide)) (cw_s h0 (by decide) rfl) (cw_gi h0 rfl (by decide) (by first | decide +kernel | rfl)) ?_
  refine a_icmp_ge 21 dX1_rightOf_9 (by decide) (fun c => absurd c (by decide)) (fun _ => ?_)
  refine a_aload_n dX1_rightOf_12 rfl rfl ?_
  refine a_get (v := .ref 5) dX1_rightOf_13 fl_1_18 (cw_l h0 (by decide)) (cw_s h0 (by decide) rfl) (cw_g h0 rfl (by decide +kernel)) ?_
  refine a_iload_n dX1_rightOf_16 rfl rfl ?_
  refine a_iaload dX1_rightOf_17 (cw_l h0 (by decide)) (cw_s h0 (by decide) rfl) (by unfold vp_in; decide +kernel) ?_
  rw [show M.2.2.1 5 (Int32.toNatClampNeg 0) = (-1) from (cw_i h0 (by decide)).trans (by first | decide +kernel | rfl)]
  refine a_goto 22 dX1_rightOf_18 (by decide) ?_
  exact a_iret dX1_rightOf_22 rfl ⟨rfl, h0⟩
set_option maxHeartbeats 4000000 in
set_option maxRecDepth 100000 in
theorem z1042_X10_at {X : Nat × (Nat → Int32)} {fr : Nat} {M : Mem}  (h0 : Cw 126 Lj134 (up2 (up2 (up2 (up2 (up2 (up2 fs42 2 8 1) 8 0 1) 74 6 0) 75 0 0) 76 0 0) 77 0 (-1)) gs31 M) : AM yX10_at cX10_at 2 (some .int) true (fr + 4) 0 0 X [.ref 75, .int (-1)] M (fun v M1 => v = some (.int (-1)) ∧ Cw 126 Lj134 (up2 (up2 (up2 (up2 (up2 (up2 fs42 2 8 1) 8 0 1) 74 6 0) 75 0 0) 76 0 0) 77 0 (-1)) gs31 M1) := by
  refine AM.of false (by decide +kernel) (by intro h; cases h) (Nat.le_of_ble_eq_true rfl) ?_
  show AW X (RX10, cX10_at, 2, (some .int), false, true, fr + 4) 0 0 0 [(0, .ref 75), (1, .int (-1))] [] M _
  refine a_iload_n dX10_at_0 rfl rfl ?_
  refine a_if_lt 16 dX10_at_1 (by decide) (fun _ => ?_) (fun c => absurd (by decide) c)
  refine a_iconst (v := (-1)) dX10_at_16 (by decide) ?_
  exact a_iret dX10_at_17 rfl ⟨rfl, h0⟩
set_option maxHeartbeats 4000000 in
set_option maxRecDepth 100000 in
theorem z1041_X5_spotOf {X : Nat × (Nat → Int32)} {fr : Nat} {M : Mem}  (h0 : Cw 126 Lj134 (up2 (up2 (up2 (up2 (up2 (up2 fs42 2 8 1) 8 0 1) 74 6 0) 75 0 0) 76 0 0) 77 0 (-1)) gs31 M) : AM yX5_spotOf cX5_spotOf 2 (some .int) true (fr + 5) 0 0 X [.ref 74, .int (-1)] M (fun v M1 => v = some (.int (-1)) ∧ Cw 126 Lj134 (up2 (up2 (up2 (up2 (up2 (up2 fs42 2 8 1) 8 0 1) 74 6 0) 75 0 0) 76 0 0) 77 0 (-1)) gs31 M1) := by
  refine AM.of false (by decide +kernel) (by intro h; cases h) (Nat.le_of_ble_eq_true rfl) ?_
  show AW X (RX5, cX5_spotOf, 2, (some .int), false, true, fr + 5) 0 0 0 [(0, .ref 74), (1, .int (-1))] [] M _
  refine a_aload_n dX5_spotOf_0 rfl rfl ?_
  refine a_get (v := .ref 75) dX5_spotOf_1 fl_5_11 (cw_l h0 (by decide)) (cw_s h0 (by decide) rfl) (cw_g h0 rfl (by decide +kernel)) ?_
  refine a_iload_n dX5_spotOf_4 rfl rfl ?_
  refine a_callS (As := [.ref 75, .int (-1)]) (st := []) (bc := 0) (bs := 0) (mc := 0) (ms := 0) true dX5_spotOf_5 mw_X10_at rfl (Or.inr ⟨rfl, mn_X5_71⟩) sm_X10_at rfl (Nat.le_of_ble_eq_true rfl) (z1042_X10_at (fr := fr)  h0) (fun v M1 hq => ?_)
  obtain ⟨rfl, h1⟩ := hq
  show AW X _ 0 0 8 _ [.int (-1)] _ _
  exact a_iret dX5_spotOf_8 rfl ⟨rfl, h1⟩
set_option maxHeartbeats 4000000 in
set_option maxRecDepth 100000 in
theorem z1029_X5_collect {X : Nat × (Nat → Int32)} {fr : Nat} {M : Mem}  (h0 : Cw 126 Lj134 fs42 gs31 M) : AM yX5_collect cX5_collect 5 none true (fr + 6) 0 0 X [.ref 74, .ref 10, .int 0] M (fun v M1 => v = none ∧ Cw 126 Lj134 (up2 (up2 (up2 (up2 (up2 (up2 (up2 (up2 fs42 2 8 1) 8 0 1) 74 6 0) 75 0 0) 76 0 0) 77 0 (-1)) 78 0 (-1)) 74 6 1) gs31 M1) := by
  refine AM.of false (by decide +kernel) (by intro h; cases h) (Nat.le_of_ble_eq_true rfl) ?_
  show AW X (RX5, cX5_collect, 5, none, false, true, fr + 6) 0 0 0 [(0, .ref 74), (1, .ref 10), (2, .int 0)] [] M _
  refine a_aload_n dX5_collect_0 rfl rfl ?_
  refine a_get (v := .ref 2) dX5_collect_1 fl_5_30 (cw_l h0 (by decide)) (cw_s h0 (by decide) rfl) (cw_g h0 rfl (by decide +kernel)) ?_
  refine a_callV (As := []) (st := []) (a := 2) (ci := 1) (bc := 0) (bs := 0) (mc := 0) (ms := 0) false dX5_collect_4 mw_X1_beginMarks rfl (Or.inl ⟨rfl, ml_X5_34⟩) im_X1_beginMarks se_X1_beginMarks (by decide) (cw_l h0 (by decide)) (cw_s h0 (by decide) rfl) rfl (Nat.le_of_ble_eq_true rfl) (z1030_X1_beginMarks (fr := fr)  h0) (fun v M1 hq => ?_)
  obtain ⟨rfl, h1⟩ := hq
  refine a_aload_n dX5_collect_7 rfl rfl ?_
  refine a_aload_n dX5_collect_8 rfl rfl ?_
  refine a_get (v := .ref 2) dX5_collect_9 fl_5_30 (cw_l h1 (by decide)) (cw_s h1 (by decide) rfl) (cw_g h1 rfl (by decide +kernel)) ?_
  refine a_callV (As := [.ref 2]) (st := []) (a := 10) (ci := 2) (bc := 0) (bs := 0) (mc := 0) (ms := 0) false dX5_collect_12 mw_X2_markFormulas rfl (Or.inl ⟨rfl, ml_X5_37⟩) im_X2_markFormulas se_X2_markFormulas (by decide) (cw_l h1 (by decide)) (cw_s h1 (by decide) rfl) rfl (Nat.le_of_ble_eq_true rfl) (z1031_X2_markFormulas (fr := fr)  h1) (fun v M2 hq => ?_)
  obtain ⟨rfl, h2⟩ := hq
  refine a_aload_n dX5_collect_15 rfl rfl ?_
  refine a_get (v := .ref 2) dX5_collect_16 fl_5_30 (cw_l h2 (by decide)) (cw_s h2 (by decide) rfl) (cw_g h2 rfl (by decide +kernel)) ?_
  refine a_iload_n dX5_collect_19 rfl rfl ?_
  refine a_callV (As := [.int 0]) (st := []) (a := 2) (ci := 1) (bc := 0) (bs := 0) (mc := 0) (ms := 0) false dX5_collect_20 mw_X1_mark rfl (Or.inl ⟨rfl, ml_X5_43⟩) im_X1_mark se_X1_mark (by decide) (cw_l h2 (by decide)) (cw_s h2 (by decide) rfl) rfl (Nat.le_of_ble_eq_true rfl) (z1032_X1_mark (fr := fr)  h2) (fun v M3 hq => ?_)
  obtain ⟨rfl, h3⟩ := hq
  show AW X _ 0 0 23 _ [.int 1] _ _
  refine a_pop dX5_collect_23 rfl ?_
  refine a_aload_n dX5_collect_24 rfl rfl ?_
  refine a_get (v := .ref 2) dX5_collect_25 fl_5_30 (cw_l h3 (by decide)) (cw_s h3 (by decide) rfl) (cw_g h3 rfl (by decide +kernel)) ?_
  refine a_callV (As := []) (st := []) (a := 2) (ci := 1) (bc := 0) (bs := 0) (mc := 0) (ms := 0) false dX5_collect_28 mw_X1_markParts rfl (Or.inl ⟨rfl, ml_X5_47⟩) im_X1_markParts se_X1_markParts (by decide) (cw_l h3 (by decide)) (cw_s h3 (by decide) rfl) rfl (Nat.le_of_ble_eq_true rfl) (z1033_X1_markParts (fr := fr)  h3) (fun v M4 hq => ?_)
  obtain ⟨rfl, h4⟩ := hq
  show AW X _ 0 0 31 _ [.int 1] _ _
  refine a_istore_n dX5_collect_31 rfl (Nat.le_of_ble_eq_true rfl) (lv2 := [(3, .int 1), (0, .ref 74), (1, .ref 10), (2, .int 0)]) rfl ?_
  refine a_aload_n dX5_collect_32 rfl rfl ?_
  refine a_iconst (v := 0) dX5_collect_33 (by decide) ?_
  refine a_putI dX5_collect_34 (Or.inl ⟨fl_5_51, Or.inl rfl⟩) rfl (cw_l h4 (by decide)) (cw_s h4 (by decide) rfl) rfl rfl ?_
  have h5 : Cw 126 Lj134 (up2 (up2 (up2 fs42 2 8 1) 8 0 1) 74 6 0) gs31 (wI M4 74 6 0) := cw_I h4 (by decide)
  generalize (wI M4 74 6 0) = M5 at h5 ⊢
  refine a_iconst (v := 0) dX5_collect_37 (by decide) ?_
  refine a_istore dX5_collect_38 (Nat.le_of_ble_eq_true rfl) (lv2 := [(4, .int 0), (3, .int 1), (0, .ref 74), (1, .ref 10), (2, .int 0)]) rfl ?_
  refine a_iload dX5_collect_40 rfl ?_
  refine a_sipush (v := 5200) dX5_collect_42 (by decide) ?_
  refine a_icmp_ge 166 dX5_collect_45 (by decide) (fun c => absurd c (by decide)) (fun _ => ?_)
  refine a_iload_n dX5_collect_48 rfl rfl ?_
  refine a_if_le 166 dX5_collect_49 (by decide) (fun c => absurd c (by decide)) (fun _ => ?_)
  refine a_aload_n dX5_collect_52 rfl rfl ?_
  refine a_get (v := .int 0) dX5_collect_53 fl_5_51 (cw_l h5 (by decide)) (cw_s h5 (by decide) rfl) (cw_gi h5 rfl (by decide) (by first | decide +kernel | rfl)) ?_
  refine a_sipush (v := 420) dX5_collect_56 (by decide) ?_
  refine a_icmp_ge 166 dX5_collect_59 (by decide) (fun c => absurd c (by decide)) (fun _ => ?_)
  refine a_aload_n dX5_collect_62 rfl rfl ?_
  refine a_get (v := .ref 2) dX5_collect_63 fl_5_30 (cw_l h5 (by decide)) (cw_s h5 (by decide) rfl) (cw_g h5 rfl (by decide +kernel)) ?_
  refine a_iload dX5_collect_66 rfl ?_
  refine a_callV (As := [.int 0]) (st := []) (a := 2) (ci := 1) (bc := 0) (bs := 0) (mc := 0) (ms := 0) false dX5_collect_68 mw_X1_isMarked rfl (Or.inl ⟨rfl, ml_X5_55⟩) im_X1_isMarked se_X1_isMarked (by decide) (cw_l h5 (by decide)) (cw_s h5 (by decide) rfl) rfl (Nat.le_of_ble_eq_true rfl) (z1035_X1_isMarked (fr := fr)  h5) (fun v M6 hq => ?_)
  obtain ⟨rfl, h6⟩ := hq
  show AW X _ 0 0 71 _ [.int 1] _ _
  refine a_if_eq 160 dX5_collect_71 (by decide) (fun c => absurd c (by decide)) (fun _ => ?_)
  refine a_aload_n dX5_collect_74 rfl rfl ?_
  refine a_get (v := .ref 75) dX5_collect_75 fl_5_11 (cw_l h6 (by decide)) (cw_s h6 (by decide) rfl) (cw_g h6 rfl (by decide +kernel)) ?_
  refine a_iload dX5_collect_78 rfl ?_
  refine a_aload_n dX5_collect_80 rfl rfl ?_
  refine a_get (v := .int 0) dX5_collect_81 fl_5_51 (cw_l h6 (by decide)) (cw_s h6 (by decide) rfl) (cw_gi h6 rfl (by decide) (by first | decide +kernel | rfl)) ?_
  refine a_iastore dX5_collect_84 (cw_l h6 (by decide)) (cw_s h6 (by decide) rfl) (by unfold vp_in; decide +kernel) ?_
  rw [show Int32.toNatClampNeg 0 = 0 from by decide +kernel]
  have h7 : Cw 126 Lj134 (up2 (up2 (up2 (up2 fs42 2 8 1) 8 0 1) 74 6 0) 75 0 0) gs31 (wI M6 75 0 0) := cw_I h6 (by decide)
  generalize (wI M6 75 0 0) = M7 at h7 ⊢
  refine a_aload_n dX5_collect_85 rfl rfl ?_
  refine a_get (v := .ref 76) dX5_collect_86 fl_5_17 (cw_l h7 (by decide)) (cw_s h7 (by decide) rfl) (cw_g h7 rfl (by decide +kernel)) ?_
  refine a_aload_n dX5_collect_89 rfl rfl ?_
  refine a_get (v := .int 0) dX5_collect_90 fl_5_51 (cw_l h7 (by decide)) (cw_s h7 (by decide) rfl) (cw_gi h7 rfl (by decide) (by first | decide +kernel | rfl)) ?_
  refine a_aload_n dX5_collect_93 rfl rfl ?_
  refine a_get (v := .ref 2) dX5_collect_94 fl_5_30 (cw_l h7 (by decide)) (cw_s h7 (by decide) rfl) (cw_g h7 rfl (by decide +kernel)) ?_
  refine a_iload dX5_collect_97 rfl ?_
  refine a_callV (As := [.int 0]) (st := [.int 0, .ref 76]) (a := 2) (ci := 1) (bc := 0) (bs := 0) (mc := 0) (ms := 0) false dX5_collect_99 mw_X1_kindOf rfl (Or.inl ⟨rfl, ml_X5_58⟩) im_X1_kindOf se_X1_kindOf (by decide) (cw_l h7 (by decide)) (cw_s h7 (by decide) rfl) rfl (Nat.le_of_ble_eq_true rfl) (z1036_X1_kindOf (fr := fr)  h7) (fun v M8 hq => ?_)
  obtain ⟨rfl, h8⟩ := hq
  show AW X _ 0 0 102 _ [.int 0, .int 0, .ref 76] _ _
  refine a_iastore dX5_collect_102 (cw_l h8 (by decide)) (cw_s h8 (by decide) rfl) (by unfold vp_in; decide +kernel) ?_
  rw [show Int32.toNatClampNeg 0 = 0 from by decide +kernel]
  have h9 : Cw 126 Lj134 (up2 (up2 (up2 (up2 (up2 fs42 2 8 1) 8 0 1) 74 6 0) 75 0 0) 76 0 0) gs31 (wI M8 76 0 0) := cw_I h8 (by decide)
  generalize (wI M8 76 0 0) = M9 at h9 ⊢
  refine a_aload_n dX5_collect_103 rfl rfl ?_
  refine a_get (v := .ref 77) dX5_collect_104 fl_5_20 (cw_l h9 (by decide)) (cw_s h9 (by decide) rfl) (cw_g h9 rfl (by decide +kernel)) ?_
  refine a_aload_n dX5_collect_107 rfl rfl ?_
  refine a_get (v := .int 0) dX5_collect_108 fl_5_51 (cw_l h9 (by decide)) (cw_s h9 (by decide) rfl) (cw_gi h9 rfl (by decide) (by first | decide +kernel | rfl)) ?_
  refine a_aload_n dX5_collect_111 rfl rfl ?_
  refine a_aload_n dX5_collect_112 rfl rfl ?_
  refine a_get (v := .ref 2) dX5_collect_113 fl_5_30 (cw_l h9 (by decide)) (cw_s h9 (by decide) rfl) (cw_g h9 rfl (by decide +kernel)) ?_
  refine a_iload dX5_collect_116 rfl ?_
  refine a_callV (As := [.int 0]) (st := [.ref 74, .int 0, .ref 77]) (a := 2) (ci := 1) (bc := 0) (bs := 0) (mc := 0) (ms := 0) false dX5_collect_118 mw_X1_leftOf rfl (Or.inl ⟨rfl, ml_X5_62⟩) im_X1_leftOf se_X1_leftOf (by decide) (cw_l h9 (by decide)) (cw_s h9 (by decide) rfl) rfl (Nat.le_of_ble_eq_true rfl) (z1037_X1_leftOf (fr := fr)  h9) (fun v M10 hq => ?_)
  obtain ⟨rfl, h10⟩ := hq
  show AW X _ 0 0 121 _ [.int (-1), .ref 74, .int 0, .ref 77] _ _
  refine a_callV (As := [.int (-1)]) (st := [.int 0, .ref 77]) (a := 74) (ci := 5) (bc := 0) (bs := 0) (mc := 0) (ms := 0) false dX5_collect_121 mw_X5_spotOf rfl (Or.inl ⟨rfl, ml_X5_65⟩) im_X5_spotOf se_X5_spotOf (by decide) (cw_l h10 (by decide)) (cw_s h10 (by decide) rfl) rfl (Nat.le_of_ble_eq_true rfl) (z1038_X5_spotOf (fr := fr)  h10) (fun v M11 hq => ?_)
  obtain ⟨rfl, h11⟩ := hq
  show AW X _ 0 0 124 _ [.int (-1), .int 0, .ref 77] _ _
  refine a_iastore dX5_collect_124 (cw_l h11 (by decide)) (cw_s h11 (by decide) rfl) (by unfold vp_in; decide +kernel) ?_
  rw [show Int32.toNatClampNeg 0 = 0 from by decide +kernel]
  have h12 : Cw 126 Lj134 (up2 (up2 (up2 (up2 (up2 (up2 fs42 2 8 1) 8 0 1) 74 6 0) 75 0 0) 76 0 0) 77 0 (-1)) gs31 (wI M11 77 0 (-1)) := cw_I h11 (by decide)
  generalize (wI M11 77 0 (-1)) = M12 at h12 ⊢
  refine a_aload_n dX5_collect_125 rfl rfl ?_
  refine a_get (v := .ref 78) dX5_collect_126 fl_5_23 (cw_l h12 (by decide)) (cw_s h12 (by decide) rfl) (cw_g h12 rfl (by decide +kernel)) ?_
  refine a_aload_n dX5_collect_129 rfl rfl ?_
  refine a_get (v := .int 0) dX5_collect_130 fl_5_51 (cw_l h12 (by decide)) (cw_s h12 (by decide) rfl) (cw_gi h12 rfl (by decide) (by first | decide +kernel | rfl)) ?_
  refine a_aload_n dX5_collect_133 rfl rfl ?_
  refine a_aload_n dX5_collect_134 rfl rfl ?_
  refine a_get (v := .ref 2) dX5_collect_135 fl_5_30 (cw_l h12 (by decide)) (cw_s h12 (by decide) rfl) (cw_g h12 rfl (by decide +kernel)) ?_
  refine a_iload dX5_collect_138 rfl ?_
  refine a_callV (As := [.int 0]) (st := [.ref 74, .int 0, .ref 78]) (a := 2) (ci := 1) (bc := 0) (bs := 0) (mc := 0) (ms := 0) false dX5_collect_140 mw_X1_rightOf rfl (Or.inl ⟨rfl, ml_X5_68⟩) im_X1_rightOf se_X1_rightOf (by decide) (cw_l h12 (by decide)) (cw_s h12 (by decide) rfl) rfl (Nat.le_of_ble_eq_true rfl) (z1040_X1_rightOf (fr := fr)  h12) (fun v M13 hq => ?_)
  obtain ⟨rfl, h13⟩ := hq
  show AW X _ 0 0 143 _ [.int (-1), .ref 74, .int 0, .ref 78] _ _
  refine a_callV (As := [.int (-1)]) (st := [.int 0, .ref 78]) (a := 74) (ci := 5) (bc := 0) (bs := 0) (mc := 0) (ms := 0) false dX5_collect_143 mw_X5_spotOf rfl (Or.inl ⟨rfl, ml_X5_65⟩) im_X5_spotOf se_X5_spotOf (by decide) (cw_l h13 (by decide)) (cw_s h13 (by decide) rfl) rfl (Nat.le_of_ble_eq_true rfl) (z1041_X5_spotOf (fr := fr)  h13) (fun v M14 hq => ?_)
  obtain ⟨rfl, h14⟩ := hq
  show AW X _ 0 0 146 _ [.int (-1), .int 0, .ref 78] _ _
  refine a_iastore dX5_collect_146 (cw_l h14 (by decide)) (cw_s h14 (by decide) rfl) (by unfold vp_in; decide +kernel) ?_
  rw [show Int32.toNatClampNeg 0 = 0 from by decide +kernel]
  have h15 : Cw 126 Lj134 (up2 (up2 (up2 (up2 (up2 (up2 (up2 fs42 2 8 1) 8 0 1) 74 6 0) 75 0 0) 76 0 0) 77 0 (-1)) 78 0 (-1)) gs31 (wI M14 78 0 (-1)) := cw_I h14 (by decide)
  generalize (wI M14 78 0 (-1)) = M15 at h15 ⊢
  refine a_aload_n dX5_collect_147 rfl rfl ?_
  refine a_dup dX5_collect_148 rfl ?_
  refine a_get (v := .int 0) dX5_collect_149 fl_5_51 (cw_l h15 (by decide)) (cw_s h15 (by decide) rfl) (cw_gi h15 rfl (by decide) (by first | decide +kernel | rfl)) ?_
  refine a_iconst (v := 1) dX5_collect_152 (by decide) ?_
  refine a_iadd dX5_collect_153 ?_
  refine a_st (st2 := [.int 1, .ref 74]) (by decide +kernel) ?_
  refine a_putI dX5_collect_154 (Or.inl ⟨fl_5_51, Or.inl rfl⟩) rfl (cw_l h15 (by decide)) (cw_s h15 (by decide) rfl) rfl rfl ?_
  have h16 : Cw 126 Lj134 (up2 (up2 (up2 (up2 (up2 (up2 (up2 (up2 fs42 2 8 1) 8 0 1) 74 6 0) 75 0 0) 76 0 0) 77 0 (-1)) 78 0 (-1)) 74 6 1) gs31 (wI M15 74 6 1) := cw_I h15 (by decide)
  generalize (wI M15 74 6 1) = M16 at h16 ⊢
  refine a_iinc (v := 0) dX5_collect_157 rfl (by decide) (Nat.le_of_ble_eq_true rfl) (lv2 := [(3, .int 0), (4, .int 0), (0, .ref 74), (1, .ref 10), (2, .int 0)]) rfl ?_
  refine a_iinc (v := 1) dX5_collect_160 rfl (by decide) (Nat.le_of_ble_eq_true rfl) (lv2 := [(4, .int 1), (3, .int 0), (0, .ref 74), (1, .ref 10), (2, .int 0)]) rfl ?_
  refine a_goto 40 dX5_collect_163 (by decide) ?_
  refine a_iload dX5_collect_40 rfl ?_
  refine a_sipush (v := 5200) dX5_collect_42 (by decide) ?_
  refine a_icmp_ge 166 dX5_collect_45 (by decide) (fun c => absurd c (by decide)) (fun _ => ?_)
  refine a_iload_n dX5_collect_48 rfl rfl ?_
  refine a_if_le 166 dX5_collect_49 (by decide) (fun _ => ?_) (fun c => absurd (by decide) c)
  exact a_vret dX5_collect_166 rfl ⟨rfl, h16⟩
set_option maxHeartbeats 4000000 in
set_option maxRecDepth 100000 in
theorem z1046_X5_kindAt {X : Nat × (Nat → Int32)} {fr : Nat} {M : Mem}  (h0 : Cw 126 Lj134 (up2 (up2 (up2 (up2 (up2 (up2 (up2 (up2 fs42 2 8 1) 8 0 1) 74 6 0) 75 0 0) 76 0 0) 77 0 (-1)) 78 0 (-1)) 74 6 1) gs31 M) : AM yX5_kindAt cX5_kindAt 2 (some .int) true (fr + 3) 0 0 X [.ref 74, .int 0] M (fun v M1 => v = some (.int 0) ∧ Cw 126 Lj134 (up2 (up2 (up2 (up2 (up2 (up2 (up2 (up2 fs42 2 8 1) 8 0 1) 74 6 0) 75 0 0) 76 0 0) 77 0 (-1)) 78 0 (-1)) 74 6 1) gs31 M1) := by
  refine AM.of false (by decide +kernel) (by intro h; cases h) (Nat.le_of_ble_eq_true rfl) ?_
  show AW X (RX5, cX5_kindAt, 2, (some .int), false, true, fr + 3) 0 0 0 [(0, .ref 74), (1, .int 0)] [] M _
  refine a_iload_n dX5_kindAt_0 rfl rfl ?_
  refine a_if_lt 28 dX5_kindAt_1 (by decide) (fun c => absurd c (by decide)) (fun _ => ?_)
  refine a_iload_n dX5_kindAt_4 rfl rfl ?_
  refine a_aload_n dX5_kindAt_5 rfl rfl ?_
  refine a_get (v := .int 1) dX5_kindAt_6 fl_5_51 (cw_l h0 (by decide)) (cw_s h0 (by decide) rfl) (cw_gi h0 rfl (by decide) (by first | decide +kernel | rfl)) ?_
  refine a_icmp_ge 28 dX5_kindAt_9 (by decide) (fun c => absurd c (by decide)) (fun _ => ?_)
  refine a_iload_n dX5_kindAt_12 rfl rfl ?_
  refine a_sipush (v := 420) dX5_kindAt_13 (by decide) ?_
  refine a_icmp_ge 28 dX5_kindAt_16 (by decide) (fun c => absurd c (by decide)) (fun _ => ?_)
  refine a_aload_n dX5_kindAt_19 rfl rfl ?_
  refine a_get (v := .ref 76) dX5_kindAt_20 fl_5_17 (cw_l h0 (by decide)) (cw_s h0 (by decide) rfl) (cw_g h0 rfl (by decide +kernel)) ?_
  refine a_iload_n dX5_kindAt_23 rfl rfl ?_
  refine a_iaload dX5_kindAt_24 (cw_l h0 (by decide)) (cw_s h0 (by decide) rfl) (by unfold vp_in; decide +kernel) ?_
  rw [show M.2.2.1 76 (Int32.toNatClampNeg 0) = 0 from (cw_i h0 (by decide)).trans (by first | decide +kernel | rfl)]
  refine a_goto 29 dX5_kindAt_25 (by decide) ?_
  exact a_iret dX5_kindAt_29 rfl ⟨rfl, h0⟩
set_option maxHeartbeats 4000000 in
set_option maxRecDepth 100000 in
theorem z1045_X5_truthOf {X : Nat × (Nat → Int32)} {fr : Nat} {M : Mem}  (h0 : Cw 126 Lj134 (up2 (up2 (up2 (up2 (up2 (up2 (up2 (up2 fs42 2 8 1) 8 0 1) 74 6 0) 75 0 0) 76 0 0) 77 0 (-1)) 78 0 (-1)) 74 6 1) gs31 M) : AM yX5_truthOf cX5_truthOf 4 (some .long) true (fr + 4) 0 0 X [.ref 74, .int 0, .int 0] M (fun v M1 => v = some (.long (-6148914691236517206)) ∧ Cw 126 Lj134 (up2 (up2 (up2 (up2 (up2 (up2 (up2 (up2 fs42 2 8 1) 8 0 1) 74 6 0) 75 0 0) 76 0 0) 77 0 (-1)) 78 0 (-1)) 74 6 1) gs31 M1) := by
  refine AM.of false (by decide +kernel) (by intro h; cases h) (Nat.le_of_ble_eq_true rfl) ?_
  show AW X (RX5, cX5_truthOf, 4, (some .long), false, true, fr + 4) 0 0 0 [(0, .ref 74), (1, .int 0), (2, .int 0)] [] M _
  refine a_aload_n dX5_truthOf_0 rfl rfl ?_
  refine a_iload_n dX5_truthOf_1 rfl rfl ?_
  refine a_callV (As := [.int 0]) (st := []) (a := 74) (ci := 5) (bc := 0) (bs := 0) (mc := 0) (ms := 0) false dX5_truthOf_2 mw_X5_kindAt rfl (Or.inl ⟨rfl, ml_X5_93⟩) im_X5_kindAt se_X5_kindAt (by decide) (cw_l h0 (by decide)) (cw_s h0 (by decide) rfl) rfl (Nat.le_of_ble_eq_true rfl) (z1046_X5_kindAt (fr := fr)  h0) (fun v M1 hq => ?_)
  obtain ⟨rfl, h1⟩ := hq
  show AW X _ 0 0 5 _ [.int 0] _ _
  refine a_istore_n dX5_truthOf_5 rfl (Nat.le_of_ble_eq_true rfl) (lv2 := [(3, .int 0), (0, .ref 74), (1, .int 0), (2, .int 0)]) rfl ?_
  refine a_iload_n dX5_truthOf_6 rfl rfl ?_
  refine a_tableOut 102 dX5_truthOf_7 (by decide +kernel) (by decide) ?_
  refine a_iload_n dX5_truthOf_102 rfl rfl ?_
  refine a_if_lt 118 dX5_truthOf_103 (by decide) (fun c => absurd c (by decide)) (fun _ => ?_)
  refine a_iload_n dX5_truthOf_106 rfl rfl ?_
  refine a_bipush (v := 6) dX5_truthOf_107 (by decide) ?_
  refine a_icmp_ge 118 dX5_truthOf_109 (by decide) (fun c => absurd c (by decide)) (fun _ => ?_)
  refine a_stAP dX5_truthOf_112 sf_X5_102 ?_
  refine a_iload_n dX5_truthOf_115 rfl rfl ?_
  refine a_ldAP dX5_truthOf_116 (by unfold vp_in; decide +kernel) ?_
  refine a_st (st2 := [.long (-6148914691236517206)]) (by decide +kernel) ?_
  exact a_lret dX5_truthOf_117 rfl ⟨rfl, h1⟩
set_option maxHeartbeats 4000000 in
set_option maxRecDepth 100000 in
theorem z1044_X5_fillTruths {X : Nat × (Nat → Int32)} {fr : Nat} {M : Mem}  (h0 : Cw 126 Lj134 (up2 (up2 (up2 (up2 (up2 (up2 (up2 (up2 fs42 2 8 1) 8 0 1) 74 6 0) 75 0 0) 76 0 0) 77 0 (-1)) 78 0 (-1)) 74 6 1) gs31 M) : AM yX5_fillTruths cX5_fillTruths 3 none true (fr + 5) 0 0 X [.ref 74, .int 0] M (fun v M1 => v = none ∧ Cw 126 Lj134 (up2 (up2 (up2 (up2 (up2 (up2 (up2 (up2 fs42 2 8 1) 8 0 1) 74 6 0) 75 0 0) 76 0 0) 77 0 (-1)) 78 0 (-1)) 74 6 1) (up2 gs31 79 0 (-6148914691236517206)) M1) := by
  refine AM.of false (by decide +kernel) (by intro h; cases h) (Nat.le_of_ble_eq_true rfl) ?_
  show AW X (RX5, cX5_fillTruths, 3, none, false, true, fr + 5) 0 0 0 [(0, .ref 74), (1, .int 0)] [] M _
  refine a_iconst (v := 0) dX5_fillTruths_0 (by decide) ?_
  refine a_istore_n dX5_fillTruths_1 rfl (Nat.le_of_ble_eq_true rfl) (lv2 := [(2, .int 0), (0, .ref 74), (1, .int 0)]) rfl ?_
  refine a_iload_n dX5_fillTruths_2 rfl rfl ?_
  refine a_aload_n dX5_fillTruths_3 rfl rfl ?_
  refine a_get (v := .int 1) dX5_fillTruths_4 fl_5_51 (cw_l h0 (by decide)) (cw_s h0 (by decide) rfl) (cw_gi h0 rfl (by decide) (by first | decide +kernel | rfl)) ?_
  refine a_icmp_ge 35 dX5_fillTruths_7 (by decide) (fun c => absurd c (by decide)) (fun _ => ?_)
  refine a_iload_n dX5_fillTruths_10 rfl rfl ?_
  refine a_sipush (v := 420) dX5_fillTruths_11 (by decide) ?_
  refine a_icmp_ge 35 dX5_fillTruths_14 (by decide) (fun c => absurd c (by decide)) (fun _ => ?_)
  refine a_aload_n dX5_fillTruths_17 rfl rfl ?_
  refine a_get (v := .ref 79) dX5_fillTruths_18 fl_5_26 (cw_l h0 (by decide)) (cw_s h0 (by decide) rfl) (cw_g h0 rfl (by decide +kernel)) ?_
  refine a_iload_n dX5_fillTruths_21 rfl rfl ?_
  refine a_aload_n dX5_fillTruths_22 rfl rfl ?_
  refine a_iload_n dX5_fillTruths_23 rfl rfl ?_
  refine a_iload_n dX5_fillTruths_24 rfl rfl ?_
  refine a_callV (As := [.int 0, .int 0]) (st := [.int 0, .ref 79]) (a := 74) (ci := 5) (bc := 0) (bs := 0) (mc := 0) (ms := 0) false dX5_fillTruths_25 mw_X5_truthOf rfl (Or.inl ⟨rfl, ml_X5_89⟩) im_X5_truthOf se_X5_truthOf (by decide) (cw_l h0 (by decide)) (cw_s h0 (by decide) rfl) rfl (Nat.le_of_ble_eq_true rfl) (z1045_X5_truthOf (fr := fr)  h0) (fun v M1 hq => ?_)
  obtain ⟨rfl, h1⟩ := hq
  show AW X _ 0 0 28 _ [.long (-6148914691236517206), .int 0, .ref 79] _ _
  refine a_lastore dX5_fillTruths_28 (cw_l h1 (by decide)) (cw_s h1 (by decide) rfl) (by unfold vp_in; decide +kernel) ?_
  rw [show Int32.toNatClampNeg 0 = 0 from by decide +kernel]
  have h2 : Cw 126 Lj134 (up2 (up2 (up2 (up2 (up2 (up2 (up2 (up2 fs42 2 8 1) 8 0 1) 74 6 0) 75 0 0) 76 0 0) 77 0 (-1)) 78 0 (-1)) 74 6 1) (up2 gs31 79 0 (-6148914691236517206)) (wJ M1 79 0 (-6148914691236517206)) := cw_J h1 (by decide)
  generalize (wJ M1 79 0 (-6148914691236517206)) = M2 at h2 ⊢
  refine a_iinc (v := 1) dX5_fillTruths_29 rfl (by decide) (Nat.le_of_ble_eq_true rfl) (lv2 := [(2, .int 1), (0, .ref 74), (1, .int 0)]) rfl ?_
  refine a_goto 2 dX5_fillTruths_32 (by decide) ?_
  refine a_iload_n dX5_fillTruths_2 rfl rfl ?_
  refine a_aload_n dX5_fillTruths_3 rfl rfl ?_
  refine a_get (v := .int 1) dX5_fillTruths_4 fl_5_51 (cw_l h2 (by decide)) (cw_s h2 (by decide) rfl) (cw_gi h2 rfl (by decide) (by first | decide +kernel | rfl)) ?_
  refine a_icmp_ge 35 dX5_fillTruths_7 (by decide) (fun _ => ?_) (fun c => absurd (by decide) c)
  exact a_vret dX5_fillTruths_35 rfl ⟨rfl, h2⟩
set_option maxHeartbeats 4000000 in
set_option maxRecDepth 100000 in
theorem z1048_X10_at {X : Nat × (Nat → Int32)} {fr : Nat} {M : Mem}  (h0 : Cw 126 Lj134 (up2 (up2 (up2 (up2 (up2 (up2 (up2 (up2 fs42 2 8 1) 8 0 1) 74 6 0) 75 0 0) 76 0 0) 77 0 (-1)) 78 0 (-1)) 74 6 1) (up2 gs31 79 0 (-6148914691236517206)) M) : AM yX10_at cX10_at 2 (some .int) true (fr + 4) 0 0 X [.ref 75, .int 0] M (fun v M1 => v = some (.int 0) ∧ Cw 126 Lj134 (up2 (up2 (up2 (up2 (up2 (up2 (up2 (up2 fs42 2 8 1) 8 0 1) 74 6 0) 75 0 0) 76 0 0) 77 0 (-1)) 78 0 (-1)) 74 6 1) (up2 gs31 79 0 (-6148914691236517206)) M1) := by
  refine AM.of false (by decide +kernel) (by intro h; cases h) (Nat.le_of_ble_eq_true rfl) ?_
  show AW X (RX10, cX10_at, 2, (some .int), false, true, fr + 4) 0 0 0 [(0, .ref 75), (1, .int 0)] [] M _
  refine a_iload_n dX10_at_0 rfl rfl ?_
  refine a_if_lt 16 dX10_at_1 (by decide) (fun c => absurd c (by decide)) (fun _ => ?_)
  refine a_iload_n dX10_at_4 rfl rfl ?_
  refine a_aload_n dX10_at_5 rfl rfl ?_
  refine a_alen (v := 5200) (by decide) dX10_at_6 (cw_l h0 (by decide)) (cw_s h0 (by decide) rfl) (by decide) ?_
  refine a_icmp_ge 16 dX10_at_7 (by decide) (fun c => absurd c (by decide)) (fun _ => ?_)
  refine a_aload_n dX10_at_10 rfl rfl ?_
  refine a_iload_n dX10_at_11 rfl rfl ?_
  refine a_iaload dX10_at_12 (cw_l h0 (by decide)) (cw_s h0 (by decide) rfl) (by unfold vp_in; decide +kernel) ?_
  rw [show M.2.2.1 75 (Int32.toNatClampNeg 0) = 0 from (cw_i h0 (by decide)).trans (by first | decide +kernel | rfl)]
  refine a_goto 17 dX10_at_13 (by decide) ?_
  exact a_iret dX10_at_17 rfl ⟨rfl, h0⟩
set_option maxHeartbeats 4000000 in
set_option maxRecDepth 100000 in
theorem z1047_X5_spotOf {X : Nat × (Nat → Int32)} {fr : Nat} {M : Mem}  (h0 : Cw 126 Lj134 (up2 (up2 (up2 (up2 (up2 (up2 (up2 (up2 fs42 2 8 1) 8 0 1) 74 6 0) 75 0 0) 76 0 0) 77 0 (-1)) 78 0 (-1)) 74 6 1) (up2 gs31 79 0 (-6148914691236517206)) M) : AM yX5_spotOf cX5_spotOf 2 (some .int) true (fr + 5) 0 0 X [.ref 74, .int 0] M (fun v M1 => v = some (.int 0) ∧ Cw 126 Lj134 (up2 (up2 (up2 (up2 (up2 (up2 (up2 (up2 fs42 2 8 1) 8 0 1) 74 6 0) 75 0 0) 76 0 0) 77 0 (-1)) 78 0 (-1)) 74 6 1) (up2 gs31 79 0 (-6148914691236517206)) M1) := by
  refine AM.of false (by decide +kernel) (by intro h; cases h) (Nat.le_of_ble_eq_true rfl) ?_
  show AW X (RX5, cX5_spotOf, 2, (some .int), false, true, fr + 5) 0 0 0 [(0, .ref 74), (1, .int 0)] [] M _
  refine a_aload_n dX5_spotOf_0 rfl rfl ?_
  refine a_get (v := .ref 75) dX5_spotOf_1 fl_5_11 (cw_l h0 (by decide)) (cw_s h0 (by decide) rfl) (cw_g h0 rfl (by decide +kernel)) ?_
  refine a_iload_n dX5_spotOf_4 rfl rfl ?_
  refine a_callS (As := [.ref 75, .int 0]) (st := []) (bc := 0) (bs := 0) (mc := 0) (ms := 0) true dX5_spotOf_5 mw_X10_at rfl (Or.inr ⟨rfl, mn_X5_71⟩) sm_X10_at rfl (Nat.le_of_ble_eq_true rfl) (z1048_X10_at (fr := fr)  h0) (fun v M1 hq => ?_)
  obtain ⟨rfl, h1⟩ := hq
  show AW X _ 0 0 8 _ [.int 0] _ _
  exact a_iret dX5_spotOf_8 rfl ⟨rfl, h1⟩
set_option maxHeartbeats 4000000 in
set_option maxRecDepth 100000 in
theorem z1049_X5_truthAt {X : Nat × (Nat → Int32)} {fr : Nat} {M : Mem}  (h0 : Cw 126 Lj134 (up2 (up2 (up2 (up2 (up2 (up2 (up2 (up2 fs42 2 8 1) 8 0 1) 74 6 0) 75 0 0) 76 0 0) 77 0 (-1)) 78 0 (-1)) 74 6 1) (up2 gs31 79 0 (-6148914691236517206)) M) : AM yX5_truthAt cX5_truthAt 2 (some .long) true (fr + 5) 0 0 X [.ref 74, .int 0] M (fun v M1 => v = some (.long (-6148914691236517206)) ∧ Cw 126 Lj134 (up2 (up2 (up2 (up2 (up2 (up2 (up2 (up2 fs42 2 8 1) 8 0 1) 74 6 0) 75 0 0) 76 0 0) 77 0 (-1)) 78 0 (-1)) 74 6 1) (up2 gs31 79 0 (-6148914691236517206)) M1) := by
  refine AM.of false (by decide +kernel) (by intro h; cases h) (Nat.le_of_ble_eq_true rfl) ?_
  show AW X (RX5, cX5_truthAt, 2, (some .long), false, true, fr + 5) 0 0 0 [(0, .ref 74), (1, .int 0)] [] M _
  refine a_iload_n dX5_truthAt_0 rfl rfl ?_
  refine a_if_lt 28 dX5_truthAt_1 (by decide) (fun c => absurd c (by decide)) (fun _ => ?_)
  refine a_iload_n dX5_truthAt_4 rfl rfl ?_
  refine a_aload_n dX5_truthAt_5 rfl rfl ?_
  refine a_get (v := .int 1) dX5_truthAt_6 fl_5_51 (cw_l h0 (by decide)) (cw_s h0 (by decide) rfl) (cw_gi h0 rfl (by decide) (by first | decide +kernel | rfl)) ?_
  refine a_icmp_ge 28 dX5_truthAt_9 (by decide) (fun c => absurd c (by decide)) (fun _ => ?_)
  refine a_iload_n dX5_truthAt_12 rfl rfl ?_
  refine a_sipush (v := 420) dX5_truthAt_13 (by decide) ?_
  refine a_icmp_ge 28 dX5_truthAt_16 (by decide) (fun c => absurd c (by decide)) (fun _ => ?_)
  refine a_aload_n dX5_truthAt_19 rfl rfl ?_
  refine a_get (v := .ref 79) dX5_truthAt_20 fl_5_26 (cw_l h0 (by decide)) (cw_s h0 (by decide) rfl) (cw_g h0 rfl (by decide +kernel)) ?_
  refine a_iload_n dX5_truthAt_23 rfl rfl ?_
  refine a_laload dX5_truthAt_24 (cw_l h0 (by decide)) (cw_s h0 (by decide) rfl) (by unfold vp_in; decide +kernel) ?_
  rw [show M.2.2.2.1 79 (Int32.toNatClampNeg 0) = (-6148914691236517206) from (cw_j h0 (by decide)).trans (by decide +kernel)]
  refine a_goto 29 dX5_truthAt_25 (by decide) ?_
  exact a_lret dX5_truthAt_29 rfl ⟨rfl, h0⟩
set_option maxHeartbeats 4000000 in
set_option maxRecDepth 100000 in
theorem z1043_X5_leastAgainst {X : Nat × (Nat → Int32)} {fr : Nat} {M : Mem}  (h0 : Cw 126 Lj134 (up2 (up2 (up2 (up2 (up2 (up2 (up2 (up2 fs42 2 8 1) 8 0 1) 74 6 0) 75 0 0) 76 0 0) 77 0 (-1)) 78 0 (-1)) 74 6 1) gs31 M) : AM yX5_leastAgainst cX5_leastAgainst 7 (some .int) true (fr + 6) 0 0 X [.ref 74, .ref 10, .int 0] M (fun v M1 => v = some (.int 0) ∧ Cw 126 Lj134 (up2 (up2 (up2 (up2 (up2 (up2 (up2 (up2 fs42 2 8 1) 8 0 1) 74 6 0) 75 0 0) 76 0 0) 77 0 (-1)) 78 0 (-1)) 74 6 1) (up2 gs31 79 0 (-6148914691236517206)) M1) := by
  refine AM.of false (by decide +kernel) (by intro h; cases h) (Nat.le_of_ble_eq_true rfl) ?_
  show AW X (RX5, cX5_leastAgainst, 7, (some .int), false, true, fr + 6) 0 0 0 [(0, .ref 74), (1, .ref 10), (2, .int 0)] [] M _
  refine a_iconst (v := 0) dX5_leastAgainst_0 (by decide) ?_
  refine a_istore_n dX5_leastAgainst_1 rfl (Nat.le_of_ble_eq_true rfl) (lv2 := [(3, .int 0), (0, .ref 74), (1, .ref 10), (2, .int 0)]) rfl ?_
  refine a_iload_n dX5_leastAgainst_2 rfl rfl ?_
  refine a_iconst (v := 4) dX5_leastAgainst_3 (by decide) ?_
  refine a_icmp_ge 106 dX5_leastAgainst_4 (by decide) (fun c => absurd c (by decide)) (fun _ => ?_)
  refine a_aload_n dX5_leastAgainst_7 rfl rfl ?_
  refine a_iload_n dX5_leastAgainst_8 rfl rfl ?_
  refine a_callV (As := [.int 0]) (st := []) (a := 74) (ci := 5) (bc := 0) (bs := 0) (mc := 0) (ms := 0) false dX5_leastAgainst_9 mw_X5_fillTruths rfl (Or.inl ⟨rfl, ml_X5_75⟩) im_X5_fillTruths se_X5_fillTruths (by decide) (cw_l h0 (by decide)) (cw_s h0 (by decide) rfl) rfl (Nat.le_of_ble_eq_true rfl) (z1044_X5_fillTruths (fr := fr)  h0) (fun v M1 hq => ?_)
  obtain ⟨rfl, h1⟩ := hq
  refine a_aload_n dX5_leastAgainst_12 rfl rfl ?_
  refine a_aload_n dX5_leastAgainst_13 rfl rfl ?_
  refine a_iload_n dX5_leastAgainst_14 rfl rfl ?_
  refine a_callV (As := [.int 0]) (st := [.ref 74]) (a := 74) (ci := 5) (bc := 0) (bs := 0) (mc := 0) (ms := 0) false dX5_leastAgainst_15 mw_X5_spotOf rfl (Or.inl ⟨rfl, ml_X5_65⟩) im_X5_spotOf se_X5_spotOf (by decide) (cw_l h1 (by decide)) (cw_s h1 (by decide) rfl) rfl (Nat.le_of_ble_eq_true rfl) (z1047_X5_spotOf (fr := fr)  h1) (fun v M2 hq => ?_)
  obtain ⟨rfl, h2⟩ := hq
  show AW X _ 0 0 18 _ [.int 0, .ref 74] _ _
  refine a_callV (As := [.int 0]) (st := []) (a := 74) (ci := 5) (bc := 0) (bs := 0) (mc := 0) (ms := 0) false dX5_leastAgainst_18 mw_X5_truthAt rfl (Or.inl ⟨rfl, ml_X5_79⟩) im_X5_truthAt se_X5_truthAt (by decide) (cw_l h2 (by decide)) (cw_s h2 (by decide) rfl) rfl (Nat.le_of_ble_eq_true rfl) (z1049_X5_truthAt (fr := fr)  h2) (fun v M3 hq => ?_)
  obtain ⟨rfl, h3⟩ := hq
  show AW X _ 0 0 21 _ [.long (-6148914691236517206)] _ _
  refine a_ldc2 dX5_leastAgainst_21 co_X5_83 ?_
  refine a_lxor dX5_leastAgainst_24 ?_
  refine a_st (st2 := [.long 6148914691236517205]) (by decide +kernel) ?_
  refine a_lstore dX5_leastAgainst_25 (Nat.le_of_ble_eq_true rfl) (lv2 := [(4, .long 6148914691236517205), (3, .int 0), (0, .ref 74), (1, .ref 10), (2, .int 0)]) rfl ?_
  refine a_iconst (v := 0) dX5_leastAgainst_27 (by decide) ?_
  refine a_istore dX5_leastAgainst_28 (Nat.le_of_ble_eq_true rfl) (lv2 := [(6, .int 0), (4, .long 6148914691236517205), (3, .int 0), (0, .ref 74), (1, .ref 10), (2, .int 0)]) rfl ?_
  refine a_iload dX5_leastAgainst_30 rfl ?_
  refine a_aload_n dX5_leastAgainst_32 rfl rfl ?_
  refine a_getN (v := .int 0) dX5_leastAgainst_33 fn_5_85 (cw_l h3 (by decide)) (cw_s h3 (by decide) rfl) (cw_gi h3 rfl (by decide) (by first | decide +kernel | rfl)) ?_
  refine a_icmp_ge 64 dX5_leastAgainst_36 (by decide) (fun _ => ?_) (fun c => absurd (by decide) c)
  refine a_iconst (v := 0) dX5_leastAgainst_64 (by decide) ?_
  refine a_istore dX5_leastAgainst_65 (Nat.le_of_ble_eq_true rfl) (lv2 := [(6, .int 0), (4, .long 6148914691236517205), (3, .int 0), (0, .ref 74), (1, .ref 10), (2, .int 0)]) rfl ?_
  refine a_iload dX5_leastAgainst_67 rfl ?_
  refine a_bipush (v := 64) dX5_leastAgainst_69 (by decide) ?_
  refine a_icmp_ge 100 dX5_leastAgainst_71 (by decide) (fun c => absurd c (by decide)) (fun _ => ?_)
  refine a_lload dX5_leastAgainst_74 rfl ?_
  refine a_iload dX5_leastAgainst_76 rfl ?_
  refine a_lushr dX5_leastAgainst_78 ?_
  refine a_st (st2 := [.long 6148914691236517205]) (by decide +kernel) ?_
  refine a_lconst (v := 1) dX5_leastAgainst_79 (by decide) ?_
  refine a_land dX5_leastAgainst_80 ?_
  refine a_st (st2 := [.long 1]) (by decide +kernel) ?_
  refine a_lconst (v := 0) dX5_leastAgainst_81 (by decide) ?_
  refine a_lcmp dX5_leastAgainst_82 ?_
  refine a_st (st2 := [.int 1]) (by decide +kernel) ?_
  refine a_if_eq 94 dX5_leastAgainst_83 (by decide) (fun c => absurd c (by decide)) (fun _ => ?_)
  refine a_iload_n dX5_leastAgainst_86 rfl rfl ?_
  refine a_bipush (v := 64) dX5_leastAgainst_87 (by decide) ?_
  refine a_imul dX5_leastAgainst_89 ?_
  refine a_st (st2 := [.int 0]) (by decide +kernel) ?_
  refine a_iload dX5_leastAgainst_90 rfl ?_
  refine a_iadd dX5_leastAgainst_92 ?_
  refine a_st (st2 := [.int 0]) (by decide +kernel) ?_
  exact a_iret dX5_leastAgainst_93 rfl ⟨rfl, h3⟩
