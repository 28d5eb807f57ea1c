set_option maxHeartbeats 4000000 in
set_option maxRecDepth 100000 in
theorem p_count_0 {X : Nat × (Nat → Int32)} {fr : Nat} {M : Mem}  (h0 : Cw 126 Lj134 fs42 gs31 M) : AM yX10_count cX10_count 2 (some .int) true (fr + 8) 0 0 X [.ref 0, .int 0] M (fun v M1 => v = some (.int 0) ∧ Fm M1) := by
  refine AM.of false (by decide +kernel) (by intro h; cases h) (Nat.le_of_ble_eq_true rfl) ?_
  show AW X (RX10, cX10_count, 2, (some .int), false, true, fr + 8) 0 0 0 [(0, .ref 0), (1, .int 0)] [] M _
  refine a_iload_n dX10_count_0 rfl rfl ?_
  refine a_tableIn 32 dX10_count_1 (by decide +kernel) (by decide +kernel) (by first | rfl | decide +kernel) (by decide) ?_
  refine a_aload_n dX10_count_32 rfl rfl ?_
  refine a_get (v := .ref 10) dX10_count_33 fl_10_23 (cw_l h0 (by decide)) (cw_s h0 (by decide) rfl) (cw_g h0 rfl (by decide +kernel)) ?_
  refine a_getN (v := .int 0) dX10_count_36 fn_10_138 (cw_l h0 (by decide)) (cw_s h0 (by decide) rfl) (cw_gi h0 rfl (by decide) (by first | decide +kernel | rfl)) ?_
  exact a_iret dX10_count_39 rfl ⟨by first | rfl | decide +kernel | simp [*], fm_of h0 (fun a k ha => by first | rfl | (repeat rw [up2_a _ _ _ _ (by omega)]))⟩
set_option maxHeartbeats 4000000 in
set_option maxRecDepth 100000 in
theorem z56_X10_fullSlots {X : Nat × (Nat → Int32)} {fr : Nat} {M : Mem}  (h0 : Cw 126 Lj134 fs42 gs31 M) : AM yX10_fullSlots cX10_fullSlots 3 (some .int) true (fr + 7) 0 0 X [.ref 0] M (fun v M1 => v = some (.int 0) ∧ Cw 126 Lj134 fs42 gs31 M1) := by
  refine AM.of false (by decide +kernel) (by intro h; cases h) (Nat.le_of_ble_eq_true rfl) ?_
  show AW X (RX10, cX10_fullSlots, 3, (some .int), false, true, fr + 7) 0 0 0 [(0, .ref 0)] [] M _
  refine a_iconst (v := 0) dX10_fullSlots_0 (by decide) ?_
  refine a_istore_n dX10_fullSlots_1 rfl (Nat.le_of_ble_eq_true rfl) (lv2 := [(1, .int 0), (0, .ref 0)]) rfl ?_
  refine a_iconst (v := 0) dX10_fullSlots_2 (by decide) ?_
  refine a_istore_n dX10_fullSlots_3 rfl (Nat.le_of_ble_eq_true rfl) (lv2 := [(2, .int 0), (1, .int 0), (0, .ref 0)]) rfl ?_
  refine a_iload_n dX10_fullSlots_4 rfl rfl ?_
  refine a_iconst (v := 4) dX10_fullSlots_5 (by decide) ?_
  refine a_icmp_ge 33 dX10_fullSlots_6 (by decide) (fun c => absurd c (by decide)) (fun _ => ?_)
  refine a_aload_n dX10_fullSlots_9 rfl rfl ?_
  refine a_get (v := .ref 24) dX10_fullSlots_10 fl_10_38 (cw_l h0 (by decide)) (cw_s h0 (by decide) rfl) (cw_g h0 rfl (by decide +kernel)) ?_
  refine a_iload_n dX10_fullSlots_13 rfl rfl ?_
  refine a_aaload (r := 25) dX10_fullSlots_14 (cw_l h0 (by decide)) (cw_s h0 (by decide) rfl) (by unfold vp_in; decide +kernel) (cw_r h0 (by decide +kernel)) ?_
  refine a_getN (v := .int 0) dX10_fullSlots_15 fn_10_171 (cw_l h0 (by decide)) (cw_s h0 (by decide) rfl) (cw_gi h0 rfl (by decide) (by first | decide +kernel | rfl)) ?_
  refine a_if_le 27 dX10_fullSlots_18 (by decide) (fun _ => ?_) (fun c => absurd (by decide) c)
  refine a_iinc (v := 1) dX10_fullSlots_27 rfl (by decide) (Nat.le_of_ble_eq_true rfl) (lv2 := [(2, .int 1), (1, .int 0), (0, .ref 0)]) rfl ?_
  refine a_goto 4 dX10_fullSlots_30 (by decide) ?_
  refine a_iload_n dX10_fullSlots_4 rfl rfl ?_
  refine a_iconst (v := 4) dX10_fullSlots_5 (by decide) ?_
  refine a_icmp_ge 33 dX10_fullSlots_6 (by decide) (fun c => absurd c (by decide)) (fun _ => ?_)
  refine a_aload_n dX10_fullSlots_9 rfl rfl ?_
  refine a_get (v := .ref 24) dX10_fullSlots_10 fl_10_38 (cw_l h0 (by decide)) (cw_s h0 (by decide) rfl) (cw_g h0 rfl (by decide +kernel)) ?_
  refine a_iload_n dX10_fullSlots_13 rfl rfl ?_
  refine a_aaload (r := 28) dX10_fullSlots_14 (cw_l h0 (by decide)) (cw_s h0 (by decide) rfl) (by unfold vp_in; decide +kernel) (cw_r h0 (by decide +kernel)) ?_
  refine a_getN (v := .int 0) dX10_fullSlots_15 fn_10_171 (cw_l h0 (by decide)) (cw_s h0 (by decide) rfl) (cw_gi h0 rfl (by decide) (by first | decide +kernel | rfl)) ?_
  refine a_if_le 27 dX10_fullSlots_18 (by decide) (fun _ => ?_) (fun c => absurd (by decide) c)
  refine a_iinc (v := 2) dX10_fullSlots_27 rfl (by decide) (Nat.le_of_ble_eq_true rfl) (lv2 := [(2, .int 2), (1, .int 0), (0, .ref 0)]) rfl ?_
  refine a_goto 4 dX10_fullSlots_30 (by decide) ?_
  refine a_iload_n dX10_fullSlots_4 rfl rfl ?_
  refine a_iconst (v := 4) dX10_fullSlots_5 (by decide) ?_
  refine a_icmp_ge 33 dX10_fullSlots_6 (by decide) (fun c => absurd c (by decide)) (fun _ => ?_)
  refine a_aload_n dX10_fullSlots_9 rfl rfl ?_
  refine a_get (v := .ref 24) dX10_fullSlots_10 fl_10_38 (cw_l h0 (by decide)) (cw_s h0 (by decide) rfl) (cw_g h0 rfl (by decide +kernel)) ?_
  refine a_iload_n dX10_fullSlots_13 rfl rfl ?_
  refine a_aaload (r := 31) dX10_fullSlots_14 (cw_l h0 (by decide)) (cw_s h0 (by decide) rfl) (by unfold vp_in; decide +kernel) (cw_r h0 (by decide +kernel)) ?_
  refine a_getN (v := .int 0) dX10_fullSlots_15 fn_10_171 (cw_l h0 (by decide)) (cw_s h0 (by decide) rfl) (cw_gi h0 rfl (by decide) (by first | decide +kernel | rfl)) ?_
  refine a_if_le 27 dX10_fullSlots_18 (by decide) (fun _ => ?_) (fun c => absurd (by decide) c)
  refine a_iinc (v := 3) dX10_fullSlots_27 rfl (by decide) (Nat.le_of_ble_eq_true rfl) (lv2 := [(2, .int 3), (1, .int 0), (0, .ref 0)]) rfl ?_
  refine a_goto 4 dX10_fullSlots_30 (by decide) ?_
  refine a_iload_n dX10_fullSlots_4 rfl rfl ?_
  refine a_iconst (v := 4) dX10_fullSlots_5 (by decide) ?_
  refine a_icmp_ge 33 dX10_fullSlots_6 (by decide) (fun c => absurd c (by decide)) (fun _ => ?_)
  refine a_aload_n dX10_fullSlots_9 rfl rfl ?_
  refine a_get (v := .ref 24) dX10_fullSlots_10 fl_10_38 (cw_l h0 (by decide)) (cw_s h0 (by decide) rfl) (cw_g h0 rfl (by decide +kernel)) ?_
  refine a_iload_n dX10_fullSlots_13 rfl rfl ?_
  refine a_aaload (r := 34) dX10_fullSlots_14 (cw_l h0 (by decide)) (cw_s h0 (by decide) rfl) (by unfold vp_in; decide +kernel) (cw_r h0 (by decide +kernel)) ?_
  refine a_getN (v := .int 0) dX10_fullSlots_15 fn_10_171 (cw_l h0 (by decide)) (cw_s h0 (by decide) rfl) (cw_gi h0 rfl (by decide) (by first | decide +kernel | rfl)) ?_
  refine a_if_le 27 dX10_fullSlots_18 (by decide) (fun _ => ?_) (fun c => absurd (by decide) c)
  refine a_iinc (v := 4) dX10_fullSlots_27 rfl (by decide) (Nat.le_of_ble_eq_true rfl) (lv2 := [(2, .int 4), (1, .int 0), (0, .ref 0)]) rfl ?_
  refine a_goto 4 dX10_fullSlots_30 (by decide) ?_
  refine a_iload_n dX10_fullSlots_4 rfl rfl ?_
  refine a_iconst (v := 4) dX10_fullSlots_5 (by decide) ?_
  refine a_icmp_ge 33 dX10_fullSlots_6 (by decide) (fun _ => ?_) (fun c => absurd (by decide) c)
  refine a_iload_n dX10_fullSlots_33 rfl rfl ?_
  exact a_iret dX10_fullSlots_34 rfl ⟨rfl, h0⟩
set_option maxHeartbeats 4000000 in
set_option maxRecDepth 100000 in
theorem p_count_1 {X : Nat × (Nat → Int32)} {fr : Nat} {M : Mem}  (h0 : Cw 126 Lj134 fs42 gs31 M) : AM yX10_count cX10_count 2 (some .int) true (fr + 8) 0 0 X [.ref 0, .int 1] M (fun v M1 => v = some (.int 0) ∧ Fm M1) := by
  refine AM.of false (by decide +kernel) (by intro h; cases h) (Nat.le_of_ble_eq_true rfl) ?_
  show AW X (RX10, cX10_count, 2, (some .int), false, true, fr + 8) 0 0 0 [(0, .ref 0), (1, .int 1)] [] M _
  refine a_iload_n dX10_count_0 rfl rfl ?_
  refine a_tableIn 40 dX10_count_1 (by decide +kernel) (by decide +kernel) (by first | rfl | decide +kernel) (by decide) ?_
  refine a_aload_n dX10_count_40 rfl rfl ?_
  refine a_callV (As := []) (st := []) (a := 0) (ci := 10) (bc := 0) (bs := 0) (mc := 0) (ms := 0) false dX10_count_41 mw_X10_fullSlots rfl (Or.inl ⟨rfl, ml_X10_177⟩) im_X10_fullSlots se_X10_fullSlots (by decide) (cw_l h0 (by decide)) (cw_s h0 (by decide) rfl) rfl (Nat.le_of_ble_eq_true rfl) (z56_X10_fullSlots (fr := fr)  h0) (fun v M1 hq => ?_)
  obtain ⟨rfl, h1⟩ := hq
  show AW X _ 0 0 44 _ [.int 0] _ _
  exact a_iret dX10_count_44 rfl ⟨by first | rfl | decide +kernel | simp [*], fm_of h1 (fun a k ha => by first | rfl | (repeat rw [up2_a _ _ _ _ (by omega)]))⟩
set_option maxHeartbeats 4000000 in
set_option maxRecDepth 100000 in
theorem p_count_2 {X : Nat × (Nat → Int32)} {fr : Nat} {M : Mem}  (h0 : Cw 126 Lj134 fs42 gs31 M) : AM yX10_count cX10_count 2 (some .int) true (fr + 8) 0 0 X [.ref 0, .int 2] M (fun v M1 => v = some (.int 0) ∧ Fm M1) := by
  refine AM.of false (by decide +kernel) (by intro h; cases h) (Nat.le_of_ble_eq_true rfl) ?_
  show AW X (RX10, cX10_count, 2, (some .int), false, true, fr + 8) 0 0 0 [(0, .ref 0), (1, .int 2)] [] M _
  refine a_iload_n dX10_count_0 rfl rfl ?_
  refine a_tableIn 45 dX10_count_1 (by decide +kernel) (by decide +kernel) (by first | rfl | decide +kernel) (by decide) ?_
  refine a_aload_n dX10_count_45 rfl rfl ?_
  refine a_get (v := .int 0) dX10_count_46 fl_10_112 (cw_l h0 (by decide)) (cw_s h0 (by decide) rfl) (cw_gi h0 rfl (by decide) (by first | decide +kernel | rfl)) ?_
  exact a_iret dX10_count_49 rfl ⟨by first | rfl | decide +kernel | simp [*], fm_of h0 (fun a k ha => by first | rfl | (repeat rw [up2_a _ _ _ _ (by omega)]))⟩
set_option maxHeartbeats 4000000 in
set_option maxRecDepth 100000 in
theorem p_count_3 {X : Nat × (Nat → Int32)} {fr : Nat} {M : Mem}  (h0 : Cw 126 Lj134 fs42 gs31 M) : AM yX10_count cX10_count 2 (some .int) true (fr + 8) 0 0 X [.ref 0, .int 3] M (fun v M1 => v = some (.int 0) ∧ Fm M1) := by
  refine AM.of false (by decide +kernel) (by intro h; cases h) (Nat.le_of_ble_eq_true rfl) ?_
  show AW X (RX10, cX10_count, 2, (some .int), false, true, fr + 8) 0 0 0 [(0, .ref 0), (1, .int 3)] [] M _
  refine a_iload_n dX10_count_0 rfl rfl ?_
  refine a_tableIn 50 dX10_count_1 (by decide +kernel) (by decide +kernel) (by first | rfl | decide +kernel) (by decide) ?_
  refine a_aload_n dX10_count_50 rfl rfl ?_
  refine a_get (v := .int 0) dX10_count_51 fl_10_180 (cw_l h0 (by decide)) (cw_s h0 (by decide) rfl) (cw_gi h0 rfl (by decide) (by first | decide +kernel | rfl)) ?_
  exact a_iret dX10_count_54 rfl ⟨by first | rfl | decide +kernel | simp [*], fm_of h0 (fun a k ha => by first | rfl | (repeat rw [up2_a _ _ _ _ (by omega)]))⟩
set_option maxHeartbeats 4000000 in
set_option maxRecDepth 100000 in
theorem p_count_o {X : Nat × (Nat → Int32)} {fr : Nat} {M : Mem} (w : Int32) (hsw : w.toInt < 0 ∨ 3 < w.toInt) (h0 : Cw 126 Lj134 fs42 gs31 M) : AM yX10_count cX10_count 2 (some .int) true (fr + 8) 0 0 X [.ref 0, .int w] M (fun v M1 => v = some (.int (-1)) ∧ Fm M1) := by
  refine AM.of false (by decide +kernel) (by intro h; cases h) (Nat.le_of_ble_eq_true rfl) ?_
  show AW X (RX10, cX10_count, 2, (some .int), false, true, fr + 8) 0 0 0 [(0, .ref 0), (1, .int w)] [] M _
  refine a_iload_n dX10_count_0 rfl rfl ?_
  refine a_tableOut 55 dX10_count_1 hsw (by decide) ?_
  refine a_iconst (v := (-1)) dX10_count_55 (by decide) ?_
  exact a_iret dX10_count_56 rfl ⟨by first | rfl | decide +kernel | simp [*], fm_of h0 (fun a k ha => by first | rfl | (repeat rw [up2_a _ _ _ _ (by omega)]))⟩
set_option maxHeartbeats 4000000 in
set_option maxRecDepth 100000 in
theorem p_hypothesis {X : Nat × (Nat → Int32)} {fr : Nat} {M : Mem} (k : Int32) (w : Int32) (i : Int32) (h0 : Cw 126 Lj134 fs42 gs31 M) : AM yX10_hypothesis cX10_hypothesis 4 (some .int) true (fr + 8) 0 0 X [.ref 0, .int k, .int w, .int i] M (fun v M1 => v = some (.int (-2)) ∧ Fm M1) := by
  refine AM.of false (by decide +kernel) (by intro h; cases h) (Nat.le_of_ble_eq_true rfl) ?_
  show AW X (RX10, cX10_hypothesis, 4, (some .int), false, true, fr + 8) 0 0 0 [(0, .ref 0), (1, .int k), (2, .int w), (3, .int i)] [] M _
  refine a_iload_n dX10_hypothesis_0 rfl rfl ?_
  refine a_if_lt 24 dX10_hypothesis_1 (by decide) (fun c1 => ?_) (fun c1 => ?_)
  · refine a_bipush (v := (-2)) dX10_hypothesis_24 (by decide) ?_
    exact a_iret dX10_hypothesis_26 rfl ⟨by first | rfl | decide +kernel | simp [*], fm_of h0 (fun a k ha => by first | rfl | (repeat rw [up2_a _ _ _ _ (by omega)]))⟩
  · refine a_iload_n dX10_hypothesis_4 rfl rfl ?_
    refine a_aload_n dX10_hypothesis_5 rfl rfl ?_
    refine a_get (v := .ref 10) dX10_hypothesis_6 fl_10_23 (cw_l h0 (by decide)) (cw_s h0 (by decide) rfl) (cw_g h0 rfl (by decide +kernel)) ?_
    refine a_getN (v := .int 0) dX10_hypothesis_9 fn_10_138 (cw_l h0 (by decide)) (cw_s h0 (by decide) rfl) (cw_gi h0 rfl (by decide) (by first | decide +kernel | rfl)) ?_
    refine a_icmp_ge 24 dX10_hypothesis_12 (by decide) (fun _ => ?_) (fun c => absurd (Int32.not_lt.mp (by assumption)) c)
    refine a_bipush (v := (-2)) dX10_hypothesis_24 (by decide) ?_
    exact a_iret dX10_hypothesis_26 rfl ⟨by first | rfl | decide +kernel | simp [*], fm_of h0 (fun a k ha => by first | rfl | (repeat rw [up2_a _ _ _ _ (by omega)]))⟩
set_option maxHeartbeats 4000000 in
set_option maxRecDepth 100000 in
theorem p_equal_b {X : Nat × (Nat → Int32)} {fr : Nat} {M : Mem} (x : Int32) (y : Int32) (hb_x : x < 0 ∨ 4 ≤ x) (h0 : Cw 126 Lj134 fs42 gs31 M) : AM yX10_equal cX10_equal 3 (some .int) true (fr + 8) 0 0 X [.ref 0, .int x, .int y] M (fun v M1 => v = some (.int (-2)) ∧ Fm M1) := by
  refine AM.of false (by decide +kernel) (by intro h; cases h) (Nat.le_of_ble_eq_true rfl) ?_
  show AW X (RX10, cX10_equal, 3, (some .int), false, true, fr + 8) 0 0 0 [(0, .ref 0), (1, .int x), (2, .int y)] [] M _
  refine a_iload_n dX10_equal_0 rfl rfl ?_
  refine a_callS (As := [.int x]) (st := []) (bc := 0) (bs := 0) (mc := 0) (ms := 0) false dX10_equal_1 mw_X10_noSlot rfl (Or.inl ⟨rfl, ml_X10_151⟩) sm_X10_noSlot rfl (Nat.le_of_ble_eq_true rfl) (k_noSlot (fr := fr + 7) x) (fun v M1 hq => ?_)
  obtain ⟨rfl, hM1⟩ := hq
  rw [hM1]
  clear hM1 M1
  refine a_st (st2 := [.int 1]) (by rw [if_pos hb_x]; rfl) ?_
  refine a_if_ne 14 dX10_equal_4 (by decide) (fun _ => ?_) (fun c => absurd c (by decide))
  refine a_bipush (v := (-2)) dX10_equal_14 (by decide) ?_
  exact a_iret dX10_equal_16 rfl ⟨by first | rfl | decide +kernel | simp [*], fm_of h0 (fun a k ha => by first | rfl | (repeat rw [up2_a _ _ _ _ (by omega)]))⟩
set_option maxHeartbeats 4000000 in
set_option maxRecDepth 100000 in
theorem p_equal_0b {X : Nat × (Nat → Int32)} {fr : Nat} {M : Mem} (y : Int32) (hb_y : y < 0 ∨ 4 ≤ y) (h0 : Cw 126 Lj134 fs42 gs31 M) : AM yX10_equal cX10_equal 3 (some .int) true (fr + 8) 0 0 X [.ref 0, .int 0, .int y] M (fun v M1 => v = some (.int (-2)) ∧ Fm M1) := by
  refine AM.of false (by decide +kernel) (by intro h; cases h) (Nat.le_of_ble_eq_true rfl) ?_
  show AW X (RX10, cX10_equal, 3, (some .int), false, true, fr + 8) 0 0 0 [(0, .ref 0), (1, .int 0), (2, .int y)] [] M _
  refine a_iload_n dX10_equal_0 rfl rfl ?_
  refine a_callS (As := [.int 0]) (st := []) (bc := 0) (bs := 0) (mc := 0) (ms := 0) false dX10_equal_1 mw_X10_noSlot rfl (Or.inl ⟨rfl, ml_X10_151⟩) sm_X10_noSlot rfl (Nat.le_of_ble_eq_true rfl) (k_noSlot (fr := fr + 7) 0) (fun v M1 hq => ?_)
  obtain ⟨rfl, hM1⟩ := hq
  rw [hM1]
  clear hM1 M1
  refine a_st (st2 := [.int 0]) (by decide +kernel) ?_
  refine a_if_ne 14 dX10_equal_4 (by decide) (fun c => absurd (by decide) c) (fun _ => ?_)
  refine a_iload_n dX10_equal_7 rfl rfl ?_
  refine a_callS (As := [.int y]) (st := []) (bc := 0) (bs := 0) (mc := 0) (ms := 0) false dX10_equal_8 mw_X10_noSlot rfl (Or.inl ⟨rfl, ml_X10_151⟩) sm_X10_noSlot rfl (Nat.le_of_ble_eq_true rfl) (k_noSlot (fr := fr + 7) y) (fun v M1 hq => ?_)
  obtain ⟨rfl, hM1⟩ := hq
  rw [hM1]
  clear hM1 M1
  refine a_st (st2 := [.int 1]) (by rw [if_pos hb_y]; rfl) ?_
  refine a_if_eq 17 dX10_equal_11 (by decide) (fun c => absurd c (by decide)) (fun _ => ?_)
  refine a_bipush (v := (-2)) dX10_equal_14 (by decide) ?_
  exact a_iret dX10_equal_16 rfl ⟨by first | rfl | decide +kernel | simp [*], fm_of h0 (fun a k ha => by first | rfl | (repeat rw [up2_a _ _ _ _ (by omega)]))⟩
set_option maxHeartbeats 4000000 in
set_option maxRecDepth 100000 in
theorem p_equal_0 {X : Nat × (Nat → Int32)} {fr : Nat} {M : Mem} (y : Int32) (hv_y : ¬ (y < 0 ∨ 4 ≤ y)) (h0 : Cw 126 Lj134 fs42 gs31 M) : AM yX10_equal cX10_equal 3 (some .int) true (fr + 8) 0 0 X [.ref 0, .int 0, .int y] M (fun v M1 => v = some (.int (-5)) ∧ Fm M1) := by
  refine AM.of false (by decide +kernel) (by intro h; cases h) (Nat.le_of_ble_eq_true rfl) ?_
  show AW X (RX10, cX10_equal, 3, (some .int), false, true, fr + 8) 0 0 0 [(0, .ref 0), (1, .int 0), (2, .int y)] [] M _
  refine a_iload_n dX10_equal_0 rfl rfl ?_
  refine a_callS (As := [.int 0]) (st := []) (bc := 0) (bs := 0) (mc := 0) (ms := 0) false dX10_equal_1 mw_X10_noSlot rfl (Or.inl ⟨rfl, ml_X10_151⟩) sm_X10_noSlot rfl (Nat.le_of_ble_eq_true rfl) (k_noSlot (fr := fr + 7) 0) (fun v M1 hq => ?_)
  obtain ⟨rfl, hM1⟩ := hq
  rw [hM1]
  clear hM1 M1
  refine a_st (st2 := [.int 0]) (by decide +kernel) ?_
  refine a_if_ne 14 dX10_equal_4 (by decide) (fun c => absurd (by decide) c) (fun _ => ?_)
  refine a_iload_n dX10_equal_7 rfl rfl ?_
  refine a_callS (As := [.int y]) (st := []) (bc := 0) (bs := 0) (mc := 0) (ms := 0) false dX10_equal_8 mw_X10_noSlot rfl (Or.inl ⟨rfl, ml_X10_151⟩) sm_X10_noSlot rfl (Nat.le_of_ble_eq_true rfl) (k_noSlot (fr := fr + 7) y) (fun v M1 hq => ?_)
  obtain ⟨rfl, hM1⟩ := hq
  rw [hM1]
  clear hM1 M1
  refine a_st (st2 := [.int 0]) (by rw [if_neg hv_y]; rfl) ?_
  refine a_if_eq 17 dX10_equal_11 (by decide) (fun _ => ?_) (fun c => absurd (by decide) c)
  refine a_aload_n dX10_equal_17 rfl rfl ?_
  refine a_get (v := .ref 24) dX10_equal_18 fl_10_38 (cw_l h0 (by decide)) (cw_s h0 (by decide) rfl) (cw_g h0 rfl (by decide +kernel)) ?_
  refine a_iload_n dX10_equal_21 rfl rfl ?_
  refine a_aaload (r := 25) dX10_equal_22 (cw_l h0 (by decide)) (cw_s h0 (by decide) rfl) (by unfold vp_in; decide +kernel) (cw_r h0 (by decide +kernel)) ?_
  refine a_getN (v := .int 0) dX10_equal_23 fn_10_171 (cw_l h0 (by decide)) (cw_s h0 (by decide) rfl) (cw_gi h0 rfl (by decide) (by first | decide +kernel | rfl)) ?_
  refine a_if_eq 41 dX10_equal_26 (by decide) (fun _ => ?_) (fun c => absurd (by decide) c)
  refine a_bipush (v := (-5)) dX10_equal_41 (by decide) ?_
  exact a_iret dX10_equal_43 rfl ⟨by first | rfl | decide +kernel | simp [*], fm_of h0 (fun a k ha => by first | rfl | (repeat rw [up2_a _ _ _ _ (by omega)]))⟩
set_option maxHeartbeats 4000000 in
set_option maxRecDepth 100000 in
theorem p_equal_1b {X : Nat × (Nat → Int32)} {fr : Nat} {M : Mem} (y : Int32) (hb_y : y < 0 ∨ 4 ≤ y) (h0 : Cw 126 Lj134 fs42 gs31 M) : AM yX10_equal cX10_equal 3 (some .int) true (fr + 8) 0 0 X [.ref 0, .int 1, .int y] M (fun v M1 => v = some (.int (-2)) ∧ Fm M1) := by
  refine AM.of false (by decide +kernel) (by intro h; cases h) (Nat.le_of_ble_eq_true rfl) ?_
  show AW X (RX10, cX10_equal, 3, (some .int), false, true, fr + 8) 0 0 0 [(0, .ref 0), (1, .int 1), (2, .int y)] [] M _
  refine a_iload_n dX10_equal_0 rfl rfl ?_
  refine a_callS (As := [.int 1]) (st := []) (bc := 0) (bs := 0) (mc := 0) (ms := 0) false dX10_equal_1 mw_X10_noSlot rfl (Or.inl ⟨rfl, ml_X10_151⟩) sm_X10_noSlot rfl (Nat.le_of_ble_eq_true rfl) (k_noSlot (fr := fr + 7) 1) (fun v M1 hq => ?_)
  obtain ⟨rfl, hM1⟩ := hq
  rw [hM1]
  clear hM1 M1
  refine a_st (st2 := [.int 0]) (by decide +kernel) ?_
  refine a_if_ne 14 dX10_equal_4 (by decide) (fun c => absurd (by decide) c) (fun _ => ?_)
  refine a_iload_n dX10_equal_7 rfl rfl ?_
  refine a_callS (As := [.int y]) (st := []) (bc := 0) (bs := 0) (mc := 0) (ms := 0) false dX10_equal_8 mw_X10_noSlot rfl (Or.inl ⟨rfl, ml_X10_151⟩) sm_X10_noSlot rfl (Nat.le_of_ble_eq_true rfl) (k_noSlot (fr := fr + 7) y) (fun v M1 hq => ?_)
  obtain ⟨rfl, hM1⟩ := hq
  rw [hM1]
  clear hM1 M1
  refine a_st (st2 := [.int 1]) (by rw [if_pos hb_y]; rfl) ?_
  refine a_if_eq 17 dX10_equal_11 (by decide) (fun c => absurd c (by decide)) (fun _ => ?_)
  refine a_bipush (v := (-2)) dX10_equal_14 (by decide) ?_
  exact a_iret dX10_equal_16 rfl ⟨by first | rfl | decide +kernel | simp [*], fm_of h0 (fun a k ha => by first | rfl | (repeat rw [up2_a _ _ _ _ (by omega)]))⟩
set_option maxHeartbeats 4000000 in
set_option maxRecDepth 100000 in
theorem p_equal_1 {X : Nat × (Nat → Int32)} {fr : Nat} {M : Mem} (y : Int32) (hv_y : ¬ (y < 0 ∨ 4 ≤ y)) (h0 : Cw 126 Lj134 fs42 gs31 M) : AM yX10_equal cX10_equal 3 (some .int) true (fr + 8) 0 0 X [.ref 0, .int 1, .int y] M (fun v M1 => v = some (.int (-5)) ∧ Fm M1) := by
  refine AM.of false (by decide +kernel) (by intro h; cases h) (Nat.le_of_ble_eq_true rfl) ?_
  show AW X (RX10, cX10_equal, 3, (some .int), false, true, fr + 8) 0 0 0 [(0, .ref 0), (1, .int 1), (2, .int y)] [] M _
  refine a_iload_n dX10_equal_0 rfl rfl ?_
  refine a_callS (As := [.int 1]) (st := []) (bc := 0) (bs := 0) (mc := 0) (ms := 0) false dX10_equal_1 mw_X10_noSlot rfl (Or.inl ⟨rfl, ml_X10_151⟩) sm_X10_noSlot rfl (Nat.le_of_ble_eq_true rfl) (k_noSlot (fr := fr + 7) 1) (fun v M1 hq => ?_)
  obtain ⟨rfl, hM1⟩ := hq
  rw [hM1]
  clear hM1 M1
  refine a_st (st2 := [.int 0]) (by decide +kernel) ?_
  refine a_if_ne 14 dX10_equal_4 (by decide) (fun c => absurd (by decide) c) (fun _ => ?_)
  refine a_iload_n dX10_equal_7 rfl rfl ?_
  refine a_callS (As := [.int y]) (st := []) (bc := 0) (bs := 0) (mc := 0) (ms := 0) false dX10_equal_8 mw_X10_noSlot rfl (Or.inl ⟨rfl, ml_X10_151⟩) sm_X10_noSlot rfl (Nat.le_of_ble_eq_true rfl) (k_noSlot (fr := fr + 7) y) (fun v M1 hq => ?_)
  obtain ⟨rfl, hM1⟩ := hq
  rw [hM1]
  clear hM1 M1
  refine a_st (st2 := [.int 0]) (by rw [if_neg hv_y]; rfl) ?_
  refine a_if_eq 17 dX10_equal_11 (by decide) (fun _ => ?_) (fun c => absurd (by decide) c)
  refine a_aload_n dX10_equal_17 rfl rfl ?_
  refine a_get (v := .ref 24) dX10_equal_18 fl_10_38 (cw_l h0 (by decide)) (cw_s h0 (by decide) rfl) (cw_g h0 rfl (by decide +kernel)) ?_
  refine a_iload_n dX10_equal_21 rfl rfl ?_
  refine a_aaload (r := 28) dX10_equal_22 (cw_l h0 (by decide)) (cw_s h0 (by decide) rfl) (by unfold vp_in; decide +kernel) (cw_r h0 (by decide +kernel)) ?_
  refine a_getN (v := .int 0) dX10_equal_23 fn_10_171 (cw_l h0 (by decide)) (cw_s h0 (by decide) rfl) (cw_gi h0 rfl (by decide) (by first | decide +kernel | rfl)) ?_
  refine a_if_eq 41 dX10_equal_26 (by decide) (fun _ => ?_) (fun c => absurd (by decide) c)
  refine a_bipush (v := (-5)) dX10_equal_41 (by decide) ?_
  exact a_iret dX10_equal_43 rfl ⟨by first | rfl | decide +kernel | simp [*], fm_of h0 (fun a k ha => by first | rfl | (repeat rw [up2_a _ _ _ _ (by omega)]))⟩
set_option maxHeartbeats 4000000 in
set_option maxRecDepth 100000 in
theorem p_equal_2b {X : Nat × (Nat → Int32)} {fr : Nat} {M : Mem} (y : Int32) (hb_y : y < 0 ∨ 4 ≤ y) (h0 : Cw 126 Lj134 fs42 gs31 M) : AM yX10_equal cX10_equal 3 (some .int) true (fr + 8) 0 0 X [.ref 0, .int 2, .int y] M (fun v M1 => v = some (.int (-2)) ∧ Fm M1) := by
  refine AM.of false (by decide +kernel) (by intro h; cases h) (Nat.le_of_ble_eq_true rfl) ?_
  show AW X (RX10, cX10_equal, 3, (some .int), false, true, fr + 8) 0 0 0 [(0, .ref 0), (1, .int 2), (2, .int y)] [] M _
  refine a_iload_n dX10_equal_0 rfl rfl ?_
  refine a_callS (As := [.int 2]) (st := []) (bc := 0) (bs := 0) (mc := 0) (ms := 0) false dX10_equal_1 mw_X10_noSlot rfl (Or.inl ⟨rfl, ml_X10_151⟩) sm_X10_noSlot rfl (Nat.le_of_ble_eq_true rfl) (k_noSlot (fr := fr + 7) 2) (fun v M1 hq => ?_)
  obtain ⟨rfl, hM1⟩ := hq
  rw [hM1]
  clear hM1 M1
  refine a_st (st2 := [.int 0]) (by decide +kernel) ?_
  refine a_if_ne 14 dX10_equal_4 (by decide) (fun c => absurd (by decide) c) (fun _ => ?_)
  refine a_iload_n dX10_equal_7 rfl rfl ?_
  refine a_callS (As := [.int y]) (st := []) (bc := 0) (bs := 0) (mc := 0) (ms := 0) false dX10_equal_8 mw_X10_noSlot rfl (Or.inl ⟨rfl, ml_X10_151⟩) sm_X10_noSlot rfl (Nat.le_of_ble_eq_true rfl) (k_noSlot (fr := fr + 7) y) (fun v M1 hq => ?_)
  obtain ⟨rfl, hM1⟩ := hq
  rw [hM1]
  clear hM1 M1
  refine a_st (st2 := [.int 1]) (by rw [if_pos hb_y]; rfl) ?_
  refine a_if_eq 17 dX10_equal_11 (by decide) (fun c => absurd c (by decide)) (fun _ => ?_)
  refine a_bipush (v := (-2)) dX10_equal_14 (by decide) ?_
  exact a_iret dX10_equal_16 rfl ⟨by first | rfl | decide +kernel | simp [*], fm_of h0 (fun a k ha => by first | rfl | (repeat rw [up2_a _ _ _ _ (by omega)]))⟩
set_option maxHeartbeats 4000000 in
set_option maxRecDepth 100000 in
theorem p_equal_2 {X : Nat × (Nat → Int32)} {fr : Nat} {M : Mem} (y : Int32) (hv_y : ¬ (y < 0 ∨ 4 ≤ y)) (h0 : Cw 126 Lj134 fs42 gs31 M) : AM yX10_equal cX10_equal 3 (some .int) true (fr + 8) 0 0 X [.ref 0, .int 2, .int y] M (fun v M1 => v = some (.int (-5)) ∧ Fm M1) := by
  refine AM.of false (by decide +kernel) (by intro h; cases h) (Nat.le_of_ble_eq_true rfl) ?_
  show AW X (RX10, cX10_equal, 3, (some .int), false, true, fr + 8) 0 0 0 [(0, .ref 0), (1, .int 2), (2, .int y)] [] M _
  refine a_iload_n dX10_equal_0 rfl rfl ?_
  refine a_callS (As := [.int 2]) (st := []) (bc := 0) (bs := 0) (mc := 0) (ms := 0) false dX10_equal_1 mw_X10_noSlot rfl (Or.inl ⟨rfl, ml_X10_151⟩) sm_X10_noSlot rfl (Nat.le_of_ble_eq_true rfl) (k_noSlot (fr := fr + 7) 2) (fun v M1 hq => ?_)
  obtain ⟨rfl, hM1⟩ := hq
  rw [hM1]
  clear hM1 M1
  refine a_st (st2 := [.int 0]) (by decide +kernel) ?_
  refine a_if_ne 14 dX10_equal_4 (by decide) (fun c => absurd (by decide) c) (fun _ => ?_)
  refine a_iload_n dX10_equal_7 rfl rfl ?_
  refine a_callS (As := [.int y]) (st := []) (bc := 0) (bs := 0) (mc := 0) (ms := 0) false dX10_equal_8 mw_X10_noSlot rfl (Or.inl ⟨rfl, ml_X10_151⟩) sm_X10_noSlot rfl (Nat.le_of_ble_eq_true rfl) (k_noSlot (fr := fr + 7) y) (fun v M1 hq => ?_)
  obtain ⟨rfl, hM1⟩ := hq
  rw [hM1]
  clear hM1 M1
  refine a_st (st2 := [.int 0]) (by rw [if_neg hv_y]; rfl) ?_
  refine a_if_eq 17 dX10_equal_11 (by decide) (fun _ => ?_) (fun c => absurd (by decide) c)
  refine a_aload_n dX10_equal_17 rfl rfl ?_
  refine a_get (v := .ref 24) dX10_equal_18 fl_10_38 (cw_l h0 (by decide)) (cw_s h0 (by decide) rfl) (cw_g h0 rfl (by decide +kernel)) ?_
  refine a_iload_n dX10_equal_21 rfl rfl ?_
  refine a_aaload (r := 31) dX10_equal_22 (cw_l h0 (by decide)) (cw_s h0 (by decide) rfl) (by unfold vp_in; decide +kernel) (cw_r h0 (by decide +kernel)) ?_
  refine a_getN (v := .int 0) dX10_equal_23 fn_10_171 (cw_l h0 (by decide)) (cw_s h0 (by decide) rfl) (cw_gi h0 rfl (by decide) (by first | decide +kernel | rfl)) ?_
  refine a_if_eq 41 dX10_equal_26 (by decide) (fun _ => ?_) (fun c => absurd (by decide) c)
  refine a_bipush (v := (-5)) dX10_equal_41 (by decide) ?_
  exact a_iret dX10_equal_43 rfl ⟨by first | rfl | decide +kernel | simp [*], fm_of h0 (fun a k ha => by first | rfl | (repeat rw [up2_a _ _ _ _ (by omega)]))⟩
set_option maxHeartbeats 4000000 in
set_option maxRecDepth 100000 in
theorem p_equal_3b {X : Nat × (Nat → Int32)} {fr : Nat} {M : Mem} (y : Int32) (hb_y : y < 0 ∨ 4 ≤ y) (h0 : Cw 126 Lj134 fs42 gs31 M) : AM yX10_equal cX10_equal 3 (some .int) true (fr + 8) 0 0 X [.ref 0, .int 3, .int y] M (fun v M1 => v = some (.int (-2)) ∧ Fm M1) := by
  refine AM.of false (by decide +kernel) (by intro h; cases h) (Nat.le_of_ble_eq_true rfl) ?_
  show AW X (RX10, cX10_equal, 3, (some .int), false, true, fr + 8) 0 0 0 [(0, .ref 0), (1, .int 3), (2, .int y)] [] M _
  refine a_iload_n dX10_equal_0 rfl rfl ?_
  refine a_callS (As := [.int 3]) (st := []) (bc := 0) (bs := 0) (mc := 0) (ms := 0) false dX10_equal_1 mw_X10_noSlot rfl (Or.inl ⟨rfl, ml_X10_151⟩) sm_X10_noSlot rfl (Nat.le_of_ble_eq_true rfl) (k_noSlot (fr := fr + 7) 3) (fun v M1 hq => ?_)
  obtain ⟨rfl, hM1⟩ := hq
  rw [hM1]
  clear hM1 M1
  refine a_st (st2 := [.int 0]) (by decide +kernel) ?_
  refine a_if_ne 14 dX10_equal_4 (by decide) (fun c => absurd (by decide) c) (fun _ => ?_)
  refine a_iload_n dX10_equal_7 rfl rfl ?_
  refine a_callS (As := [.int y]) (st := []) (bc := 0) (bs := 0) (mc := 0) (ms := 0) false dX10_equal_8 mw_X10_noSlot rfl (Or.inl ⟨rfl, ml_X10_151⟩) sm_X10_noSlot rfl (Nat.le_of_ble_eq_true rfl) (k_noSlot (fr := fr + 7) y) (fun v M1 hq => ?_)
  obtain ⟨rfl, hM1⟩ := hq
  rw [hM1]
  clear hM1 M1
  refine a_st (st2 := [.int 1]) (by rw [if_pos hb_y]; rfl) ?_
  refine a_if_eq 17 dX10_equal_11 (by decide) (fun c => absurd c (by decide)) (fun _ => ?_)
  refine a_bipush (v := (-2)) dX10_equal_14 (by decide) ?_
  exact a_iret dX10_equal_16 rfl ⟨by first | rfl | decide +kernel | simp [*], fm_of h0 (fun a k ha => by first | rfl | (repeat rw [up2_a _ _ _ _ (by omega)]))⟩
set_option maxHeartbeats 4000000 in
set_option maxRecDepth 100000 in
theorem p_equal_3 {X : Nat × (Nat → Int32)} {fr : Nat} {M : Mem} (y : Int32) (hv_y : ¬ (y < 0 ∨ 4 ≤ y)) (h0 : Cw 126 Lj134 fs42 gs31 M) : AM yX10_equal cX10_equal 3 (some .int) true (fr + 8) 0 0 X [.ref 0, .int 3, .int y] M (fun v M1 => v = some (.int (-5)) ∧ Fm M1) := by
  refine AM.of false (by decide +kernel) (by intro h; cases h) (Nat.le_of_ble_eq_true rfl) ?_
  show AW X (RX10, cX10_equal, 3, (some .int), false, true, fr + 8) 0 0 0 [(0, .ref 0), (1, .int 3), (2, .int y)] [] M _
  refine a_iload_n dX10_equal_0 rfl rfl ?_
  refine a_callS (As := [.int 3]) (st := []) (bc := 0) (bs := 0) (mc := 0) (ms := 0) false dX10_equal_1 mw_X10_noSlot rfl (Or.inl ⟨rfl, ml_X10_151⟩) sm_X10_noSlot rfl (Nat.le_of_ble_eq_true rfl) (k_noSlot (fr := fr + 7) 3) (fun v M1 hq => ?_)
  obtain ⟨rfl, hM1⟩ := hq
  rw [hM1]
  clear hM1 M1
  refine a_st (st2 := [.int 0]) (by decide +kernel) ?_
  refine a_if_ne 14 dX10_equal_4 (by decide) (fun c => absurd (by decide) c) (fun _ => ?_)
  refine a_iload_n dX10_equal_7 rfl rfl ?_
  refine a_callS (As := [.int y]) (st := []) (bc := 0) (bs := 0) (mc := 0) (ms := 0) false dX10_equal_8 mw_X10_noSlot rfl (Or.inl ⟨rfl, ml_X10_151⟩) sm_X10_noSlot rfl (Nat.le_of_ble_eq_true rfl) (k_noSlot (fr := fr + 7) y) (fun v M1 hq => ?_)
  obtain ⟨rfl, hM1⟩ := hq
  rw [hM1]
  clear hM1 M1
  refine a_st (st2 := [.int 0]) (by rw [if_neg hv_y]; rfl) ?_
  refine a_if_eq 17 dX10_equal_11 (by decide) (fun _ => ?_) (fun c => absurd (by decide) c)
  refine a_aload_n dX10_equal_17 rfl rfl ?_
  refine a_get (v := .ref 24) dX10_equal_18 fl_10_38 (cw_l h0 (by decide)) (cw_s h0 (by decide) rfl) (cw_g h0 rfl (by decide +kernel)) ?_
  refine a_iload_n dX10_equal_21 rfl rfl ?_
  refine a_aaload (r := 34) dX10_equal_22 (cw_l h0 (by decide)) (cw_s h0 (by decide) rfl) (by unfold vp_in; decide +kernel) (cw_r h0 (by decide +kernel)) ?_
  refine a_getN (v := .int 0) dX10_equal_23 fn_10_171 (cw_l h0 (by decide)) (cw_s h0 (by decide) rfl) (cw_gi h0 rfl (by decide) (by first | decide +kernel | rfl)) ?_
  refine a_if_eq 41 dX10_equal_26 (by decide) (fun _ => ?_) (fun c => absurd (by decide) c)
  refine a_bipush (v := (-5)) dX10_equal_41 (by decide) ?_
  exact a_iret dX10_equal_43 rfl ⟨by first | rfl | decide +kernel | simp [*], fm_of h0 (fun a k ha => by first | rfl | (repeat rw [up2_a _ _ _ _ (by omega)]))⟩
set_option maxHeartbeats 4000000 in
set_option maxRecDepth 100000 in
theorem p_alike_b {X : Nat × (Nat → Int32)} {fr : Nat} {M : Mem} (x : Int32) (y : Int32) (hb_x : x < 0 ∨ 4 ≤ x) (h0 : Cw 126 Lj134 fs42 gs31 M) : AM yX10_alike cX10_alike 3 (some .int) true (fr + 8) 0 0 X [.ref 0, .int x, .int y] M (fun v M1 => v = some (.int (-2)) ∧ Fm M1) := by
  refine AM.of false (by decide +kernel) (by intro h; cases h) (Nat.le_of_ble_eq_true rfl) ?_
  show AW X (RX10, cX10_alike, 3, (some .int), false, true, fr + 8) 0 0 0 [(0, .ref 0), (1, .int x), (2, .int y)] [] M _
  refine a_iload_n dX10_alike_0 rfl rfl ?_
  refine a_callS (As := [.int x]) (st := []) (bc := 0) (bs := 0) (mc := 0) (ms := 0) false dX10_alike_1 mw_X10_noSlot rfl (Or.inl ⟨rfl, ml_X10_151⟩) sm_X10_noSlot rfl (Nat.le_of_ble_eq_true rfl) (k_noSlot (fr := fr + 7) x) (fun v M1 hq => ?_)
  obtain ⟨rfl, hM1⟩ := hq
  rw [hM1]
  clear hM1 M1
  refine a_st (st2 := [.int 1]) (by rw [if_pos hb_x]; rfl) ?_
  refine a_if_ne 14 dX10_alike_4 (by decide) (fun _ => ?_) (fun c => absurd c (by decide))
  refine a_bipush (v := (-2)) dX10_alike_14 (by decide) ?_
  exact a_iret dX10_alike_16 rfl ⟨by first | rfl | decide +kernel | simp [*], fm_of h0 (fun a k ha => by first | rfl | (repeat rw [up2_a _ _ _ _ (by omega)]))⟩
set_option maxHeartbeats 4000000 in
set_option maxRecDepth 100000 in
theorem p_alike_0b {X : Nat × (Nat → Int32)} {fr : Nat} {M : Mem} (y : Int32) (hb_y : y < 0 ∨ 4 ≤ y) (h0 : Cw 126 Lj134 fs42 gs31 M) : AM yX10_alike cX10_alike 3 (some .int) true (fr + 8) 0 0 X [.ref 0, .int 0, .int y] M (fun v M1 => v = some (.int (-2)) ∧ Fm M1) := by
  refine AM.of false (by decide +kernel) (by intro h; cases h) (Nat.le_of_ble_eq_true rfl) ?_
  show AW X (RX10, cX10_alike, 3, (some .int), false, true, fr + 8) 0 0 0 [(0, .ref 0), (1, .int 0), (2, .int y)] [] M _
  refine a_iload_n dX10_alike_0 rfl rfl ?_
  refine a_callS (As := [.int 0]) (st := []) (bc := 0) (bs := 0) (mc := 0) (ms := 0) false dX10_alike_1 mw_X10_noSlot rfl (Or.inl ⟨rfl, ml_X10_151⟩) sm_X10_noSlot rfl (Nat.le_of_ble_eq_true rfl) (k_noSlot (fr := fr + 7) 0) (fun v M1 hq => ?_)
  obtain ⟨rfl, hM1⟩ := hq
  rw [hM1]
  clear hM1 M1
  refine a_st (st2 := [.int 0]) (by decide +kernel) ?_
  refine a_if_ne 14 dX10_alike_4 (by decide) (fun c => absurd (by decide) c) (fun _ => ?_)
  refine a_iload_n dX10_alike_7 rfl rfl ?_
  refine a_callS (As := [.int y]) (st := []) (bc := 0) (bs := 0) (mc := 0) (ms := 0) false dX10_alike_8 mw_X10_noSlot rfl (Or.inl ⟨rfl, ml_X10_151⟩) sm_X10_noSlot rfl (Nat.le_of_ble_eq_true rfl) (k_noSlot (fr := fr + 7) y) (fun v M1 hq => ?_)
  obtain ⟨rfl, hM1⟩ := hq
  rw [hM1]
  clear hM1 M1
  refine a_st (st2 := [.int 1]) (by rw [if_pos hb_y]; rfl) ?_
  refine a_if_eq 17 dX10_alike_11 (by decide) (fun c => absurd c (by decide)) (fun _ => ?_)
  refine a_bipush (v := (-2)) dX10_alike_14 (by decide) ?_
  exact a_iret dX10_alike_16 rfl ⟨by first | rfl | decide +kernel | simp [*], fm_of h0 (fun a k ha => by first | rfl | (repeat rw [up2_a _ _ _ _ (by omega)]))⟩
set_option maxHeartbeats 4000000 in
set_option maxRecDepth 100000 in
theorem p_alike_0 {X : Nat × (Nat → Int32)} {fr : Nat} {M : Mem} (y : Int32) (hv_y : ¬ (y < 0 ∨ 4 ≤ y)) (h0 : Cw 126 Lj134 fs42 gs31 M) : AM yX10_alike cX10_alike 3 (some .int) true (fr + 8) 0 0 X [.ref 0, .int 0, .int y] M (fun v M1 => v = some (.int (-5)) ∧ Fm M1) := by
  refine AM.of false (by decide +kernel) (by intro h; cases h) (Nat.le_of_ble_eq_true rfl) ?_
  show AW X (RX10, cX10_alike, 3, (some .int), false, true, fr + 8) 0 0 0 [(0, .ref 0), (1, .int 0), (2, .int y)] [] M _
  refine a_iload_n dX10_alike_0 rfl rfl ?_
  refine a_callS (As := [.int 0]) (st := []) (bc := 0) (bs := 0) (mc := 0) (ms := 0) false dX10_alike_1 mw_X10_noSlot rfl (Or.inl ⟨rfl, ml_X10_151⟩) sm_X10_noSlot rfl (Nat.le_of_ble_eq_true rfl) (k_noSlot (fr := fr + 7) 0) (fun v M1 hq => ?_)
  obtain ⟨rfl, hM1⟩ := hq
  rw [hM1]
  clear hM1 M1
  refine a_st (st2 := [.int 0]) (by decide +kernel) ?_
  refine a_if_ne 14 dX10_alike_4 (by decide) (fun c => absurd (by decide) c) (fun _ => ?_)
  refine a_iload_n dX10_alike_7 rfl rfl ?_
  refine a_callS (As := [.int y]) (st := []) (bc := 0) (bs := 0) (mc := 0) (ms := 0) false dX10_alike_8 mw_X10_noSlot rfl (Or.inl ⟨rfl, ml_X10_151⟩) sm_X10_noSlot rfl (Nat.le_of_ble_eq_true rfl) (k_noSlot (fr := fr + 7) y) (fun v M1 hq => ?_)
  obtain ⟨rfl, hM1⟩ := hq
  rw [hM1]
  clear hM1 M1
  refine a_st (st2 := [.int 0]) (by rw [if_neg hv_y]; rfl) ?_
  refine a_if_eq 17 dX10_alike_11 (by decide) (fun _ => ?_) (fun c => absurd (by decide) c)
  refine a_aload_n dX10_alike_17 rfl rfl ?_
  refine a_get (v := .ref 24) dX10_alike_18 fl_10_38 (cw_l h0 (by decide)) (cw_s h0 (by decide) rfl) (cw_g h0 rfl (by decide +kernel)) ?_
  refine a_iload_n dX10_alike_21 rfl rfl ?_
  refine a_aaload (r := 25) dX10_alike_22 (cw_l h0 (by decide)) (cw_s h0 (by decide) rfl) (by unfold vp_in; decide +kernel) (cw_r h0 (by decide +kernel)) ?_
  refine a_getN (v := .int 0) dX10_alike_23 fn_10_171 (cw_l h0 (by decide)) (cw_s h0 (by decide) rfl) (cw_gi h0 rfl (by decide) (by first | decide +kernel | rfl)) ?_
  refine a_if_eq 41 dX10_alike_26 (by decide) (fun _ => ?_) (fun c => absurd (by decide) c)
  refine a_bipush (v := (-5)) dX10_alike_41 (by decide) ?_
  exact a_iret dX10_alike_43 rfl ⟨by first | rfl | decide +kernel | simp [*], fm_of h0 (fun a k ha => by first | rfl | (repeat rw [up2_a _ _ _ _ (by omega)]))⟩
set_option maxHeartbeats 4000000 in
set_option maxRecDepth 100000 in
theorem p_alike_1b {X : Nat × (Nat → Int32)} {fr : Nat} {M : Mem} (y : Int32) (hb_y : y < 0 ∨ 4 ≤ y) (h0 : Cw 126 Lj134 fs42 gs31 M) : AM yX10_alike cX10_alike 3 (some .int) true (fr + 8) 0 0 X [.ref 0, .int 1, .int y] M (fun v M1 => v = some (.int (-2)) ∧ Fm M1) := by
  refine AM.of false (by decide +kernel) (by intro h; cases h) (Nat.le_of_ble_eq_true rfl) ?_
  show AW X (RX10, cX10_alike, 3, (some .int), false, true, fr + 8) 0 0 0 [(0, .ref 0), (1, .int 1), (2, .int y)] [] M _
  refine a_iload_n dX10_alike_0 rfl rfl ?_
  refine a_callS (As := [.int 1]) (st := []) (bc := 0) (bs := 0) (mc := 0) (ms := 0) false dX10_alike_1 mw_X10_noSlot rfl (Or.inl ⟨rfl, ml_X10_151⟩) sm_X10_noSlot rfl (Nat.le_of_ble_eq_true rfl) (k_noSlot (fr := fr + 7) 1) (fun v M1 hq => ?_)
  obtain ⟨rfl, hM1⟩ := hq
  rw [hM1]
  clear hM1 M1
  refine a_st (st2 := [.int 0]) (by decide +kernel) ?_
  refine a_if_ne 14 dX10_alike_4 (by decide) (fun c => absurd (by decide) c) (fun _ => ?_)
  refine a_iload_n dX10_alike_7 rfl rfl ?_
  refine a_callS (As := [.int y]) (st := []) (bc := 0) (bs := 0) (mc := 0) (ms := 0) false dX10_alike_8 mw_X10_noSlot rfl (Or.inl ⟨rfl, ml_X10_151⟩) sm_X10_noSlot rfl (Nat.le_of_ble_eq_true rfl) (k_noSlot (fr := fr + 7) y) (fun v M1 hq => ?_)
  obtain ⟨rfl, hM1⟩ := hq
  rw [hM1]
  clear hM1 M1
  refine a_st (st2 := [.int 1]) (by rw [if_pos hb_y]; rfl) ?_
  refine a_if_eq 17 dX10_alike_11 (by decide) (fun c => absurd c (by decide)) (fun _ => ?_)
  refine a_bipush (v := (-2)) dX10_alike_14 (by decide) ?_
  exact a_iret dX10_alike_16 rfl ⟨by first | rfl | decide +kernel | simp [*], fm_of h0 (fun a k ha => by first | rfl | (repeat rw [up2_a _ _ _ _ (by omega)]))⟩
set_option maxHeartbeats 4000000 in
set_option maxRecDepth 100000 in
theorem p_alike_1 {X : Nat × (Nat → Int32)} {fr : Nat} {M : Mem} (y : Int32) (hv_y : ¬ (y < 0 ∨ 4 ≤ y)) (h0 : Cw 126 Lj134 fs42 gs31 M) : AM yX10_alike cX10_alike 3 (some .int) true (fr + 8) 0 0 X [.ref 0, .int 1, .int y] M (fun v M1 => v = some (.int (-5)) ∧ Fm M1) := by
  refine AM.of false (by decide +kernel) (by intro h; cases h) (Nat.le_of_ble_eq_true rfl) ?_
  show AW X (RX10, cX10_alike, 3, (some .int), false, true, fr + 8) 0 0 0 [(0, .ref 0), (1, .int 1), (2, .int y)] [] M _
  refine a_iload_n dX10_alike_0 rfl rfl ?_
  refine a_callS (As := [.int 1]) (st := []) (bc := 0) (bs := 0) (mc := 0) (ms := 0) false dX10_alike_1 mw_X10_noSlot rfl (Or.inl ⟨rfl, ml_X10_151⟩) sm_X10_noSlot rfl (Nat.le_of_ble_eq_true rfl) (k_noSlot (fr := fr + 7) 1) (fun v M1 hq => ?_)
  obtain ⟨rfl, hM1⟩ := hq
  rw [hM1]
  clear hM1 M1
  refine a_st (st2 := [.int 0]) (by decide +kernel) ?_
  refine a_if_ne 14 dX10_alike_4 (by decide) (fun c => absurd (by decide) c) (fun _ => ?_)
  refine a_iload_n dX10_alike_7 rfl rfl ?_
  refine a_callS (As := [.int y]) (st := []) (bc := 0) (bs := 0) (mc := 0) (ms := 0) false dX10_alike_8 mw_X10_noSlot rfl (Or.inl ⟨rfl, ml_X10_151⟩) sm_X10_noSlot rfl (Nat.le_of_ble_eq_true rfl) (k_noSlot (fr := fr + 7) y) (fun v M1 hq => ?_)
  obtain ⟨rfl, hM1⟩ := hq
  rw [hM1]
  clear hM1 M1
  refine a_st (st2 := [.int 0]) (by rw [if_neg hv_y]; rfl) ?_
  refine a_if_eq 17 dX10_alike_11 (by decide) (fun _ => ?_) (fun c => absurd (by decide) c)
  refine a_aload_n dX10_alike_17 rfl rfl ?_
  refine a_get (v := .ref 24) dX10_alike_18 fl_10_38 (cw_l h0 (by decide)) (cw_s h0 (by decide) rfl) (cw_g h0 rfl (by decide +kernel)) ?_
  refine a_iload_n dX10_alike_21 rfl rfl ?_
  refine a_aaload (r := 28) dX10_alike_22 (cw_l h0 (by decide)) (cw_s h0 (by decide) rfl) (by unfold vp_in; decide +kernel) (cw_r h0 (by decide +kernel)) ?_
  refine a_getN (v := .int 0) dX10_alike_23 fn_10_171 (cw_l h0 (by decide)) (cw_s h0 (by decide) rfl) (cw_gi h0 rfl (by decide) (by first | decide +kernel | rfl)) ?_
  refine a_if_eq 41 dX10_alike_26 (by decide) (fun _ => ?_) (fun c => absurd (by decide) c)
  refine a_bipush (v := (-5)) dX10_alike_41 (by decide) ?_
  exact a_iret dX10_alike_43 rfl ⟨by first | rfl | decide +kernel | simp [*], fm_of h0 (fun a k ha => by first | rfl | (repeat rw [up2_a _ _ _ _ (by omega)]))⟩
set_option maxHeartbeats 4000000 in
set_option maxRecDepth 100000 in
theorem p_alike_2b {X : Nat × (Nat → Int32)} {fr : Nat} {M : Mem} (y : Int32) (hb_y : y < 0 ∨ 4 ≤ y) (h0 : Cw 126 Lj134 fs42 gs31 M) : AM yX10_alike cX10_alike 3 (some .int) true (fr + 8) 0 0 X [.ref 0, .int 2, .int y] M (fun v M1 => v = some (.int (-2)) ∧ Fm M1) := by
  refine AM.of false (by decide +kernel) (by intro h; cases h) (Nat.le_of_ble_eq_true rfl) ?_
  show AW X (RX10, cX10_alike, 3, (some .int), false, true, fr + 8) 0 0 0 [(0, .ref 0), (1, .int 2), (2, .int y)] [] M _
  refine a_iload_n dX10_alike_0 rfl rfl ?_
  refine a_callS (As := [.int 2]) (st := []) (bc := 0) (bs := 0) (mc := 0) (ms := 0) false dX10_alike_1 mw_X10_noSlot rfl (Or.inl ⟨rfl, ml_X10_151⟩) sm_X10_noSlot rfl (Nat.le_of_ble_eq_true rfl) (k_noSlot (fr := fr + 7) 2) (fun v M1 hq => ?_)
  obtain ⟨rfl, hM1⟩ := hq
  rw [hM1]
  clear hM1 M1
  refine a_st (st2 := [.int 0]) (by decide +kernel) ?_
  refine a_if_ne 14 dX10_alike_4 (by decide) (fun c => absurd (by decide) c) (fun _ => ?_)
  refine a_iload_n dX10_alike_7 rfl rfl ?_
  refine a_callS (As := [.int y]) (st := []) (bc := 0) (bs := 0) (mc := 0) (ms := 0) false dX10_alike_8 mw_X10_noSlot rfl (Or.inl ⟨rfl, ml_X10_151⟩) sm_X10_noSlot rfl (Nat.le_of_ble_eq_true rfl) (k_noSlot (fr := fr + 7) y) (fun v M1 hq => ?_)
  obtain ⟨rfl, hM1⟩ := hq
  rw [hM1]
  clear hM1 M1
  refine a_st (st2 := [.int 1]) (by rw [if_pos hb_y]; rfl) ?_
  refine a_if_eq 17 dX10_alike_11 (by decide) (fun c => absurd c (by decide)) (fun _ => ?_)
  refine a_bipush (v := (-2)) dX10_alike_14 (by decide) ?_
  exact a_iret dX10_alike_16 rfl ⟨by first | rfl | decide +kernel | simp [*], fm_of h0 (fun a k ha => by first | rfl | (repeat rw [up2_a _ _ _ _ (by omega)]))⟩
set_option maxHeartbeats 4000000 in
set_option maxRecDepth 100000 in
theorem p_alike_2 {X : Nat × (Nat → Int32)} {fr : Nat} {M : Mem} (y : Int32) (hv_y : ¬ (y < 0 ∨ 4 ≤ y)) (h0 : Cw 126 Lj134 fs42 gs31 M) : AM yX10_alike cX10_alike 3 (some .int) true (fr + 8) 0 0 X [.ref 0, .int 2, .int y] M (fun v M1 => v = some (.int (-5)) ∧ Fm M1) := by
  refine AM.of false (by decide +kernel) (by intro h; cases h) (Nat.le_of_ble_eq_true rfl) ?_
  show AW X (RX10, cX10_alike, 3, (some .int), false, true, fr + 8) 0 0 0 [(0, .ref 0), (1, .int 2), (2, .int y)] [] M _
  refine a_iload_n dX10_alike_0 rfl rfl ?_
  refine a_callS (As := [.int 2]) (st := []) (bc := 0) (bs := 0) (mc := 0) (ms := 0) false dX10_alike_1 mw_X10_noSlot rfl (Or.inl ⟨rfl, ml_X10_151⟩) sm_X10_noSlot rfl (Nat.le_of_ble_eq_true rfl) (k_noSlot (fr := fr + 7) 2) (fun v M1 hq => ?_)
  obtain ⟨rfl, hM1⟩ := hq
  rw [hM1]
  clear hM1 M1
  refine a_st (st2 := [.int 0]) (by decide +kernel) ?_
  refine a_if_ne 14 dX10_alike_4 (by decide) (fun c => absurd (by decide) c) (fun _ => ?_)
  refine a_iload_n dX10_alike_7 rfl rfl ?_
  refine a_callS (As := [.int y]) (st := []) (bc := 0) (bs := 0) (mc := 0) (ms := 0) false dX10_alike_8 mw_X10_noSlot rfl (Or.inl ⟨rfl, ml_X10_151⟩) sm_X10_noSlot rfl (Nat.le_of_ble_eq_true rfl) (k_noSlot (fr := fr + 7) y) (fun v M1 hq => ?_)
  obtain ⟨rfl, hM1⟩ := hq
  rw [hM1]
  clear hM1 M1
  refine a_st (st2 := [.int 0]) (by rw [if_neg hv_y]; rfl) ?_
  refine a_if_eq 17 dX10_alike_11 (by decide) (fun _ => ?_) (fun c => absurd (by decide) c)
  refine a_aload_n dX10_alike_17 rfl rfl ?_
  refine a_get (v := .ref 24) dX10_alike_18 fl_10_38 (cw_l h0 (by decide)) (cw_s h0 (by decide) rfl) (cw_g h0 rfl (by decide +kernel)) ?_
  refine a_iload_n dX10_alike_21 rfl rfl ?_
  refine a_aaload (r := 31) dX10_alike_22 (cw_l h0 (by decide)) (cw_s h0 (by decide) rfl) (by unfold vp_in; decide +kernel) (cw_r h0 (by decide +kernel)) ?_
  refine a_getN (v := .int 0) dX10_alike_23 fn_10_171 (cw_l h0 (by decide)) (cw_s h0 (by decide) rfl) (cw_gi h0 rfl (by decide) (by first | decide +kernel | rfl)) ?_
  refine a_if_eq 41 dX10_alike_26 (by decide) (fun _ => ?_) (fun c => absurd (by decide) c)
  refine a_bipush (v := (-5)) dX10_alike_41 (by decide) ?_
  exact a_iret dX10_alike_43 rfl ⟨by first | rfl | decide +kernel | simp [*], fm_of h0 (fun a k ha => by first | rfl | (repeat rw [up2_a _ _ _ _ (by omega)]))⟩
set_option maxHeartbeats 4000000 in
set_option maxRecDepth 100000 in
theorem p_alike_3b {X : Nat × (Nat → Int32)} {fr : Nat} {M : Mem} (y : Int32) (hb_y : y < 0 ∨ 4 ≤ y) (h0 : Cw 126 Lj134 fs42 gs31 M) : AM yX10_alike cX10_alike 3 (some .int) true (fr + 8) 0 0 X [.ref 0, .int 3, .int y] M (fun v M1 => v = some (.int (-2)) ∧ Fm M1) := by
  refine AM.of false (by decide +kernel) (by intro h; cases h) (Nat.le_of_ble_eq_true rfl) ?_
  show AW X (RX10, cX10_alike, 3, (some .int), false, true, fr + 8) 0 0 0 [(0, .ref 0), (1, .int 3), (2, .int y)] [] M _
  refine a_iload_n dX10_alike_0 rfl rfl ?_
  refine a_callS (As := [.int 3]) (st := []) (bc := 0) (bs := 0) (mc := 0) (ms := 0) false dX10_alike_1 mw_X10_noSlot rfl (Or.inl ⟨rfl, ml_X10_151⟩) sm_X10_noSlot rfl (Nat.le_of_ble_eq_true rfl) (k_noSlot (fr := fr + 7) 3) (fun v M1 hq => ?_)
  obtain ⟨rfl, hM1⟩ := hq
  rw [hM1]
  clear hM1 M1
  refine a_st (st2 := [.int 0]) (by decide +kernel) ?_
  refine a_if_ne 14 dX10_alike_4 (by decide) (fun c => absurd (by decide) c) (fun _ => ?_)
  refine a_iload_n dX10_alike_7 rfl rfl ?_
  refine a_callS (As := [.int y]) (st := []) (bc := 0) (bs := 0) (mc := 0) (ms := 0) false dX10_alike_8 mw_X10_noSlot rfl (Or.inl ⟨rfl, ml_X10_151⟩) sm_X10_noSlot rfl (Nat.le_of_ble_eq_true rfl) (k_noSlot (fr := fr + 7) y) (fun v M1 hq => ?_)
  obtain ⟨rfl, hM1⟩ := hq
  rw [hM1]
  clear hM1 M1
  refine a_st (st2 := [.int 1]) (by rw [if_pos hb_y]; rfl) ?_
  refine a_if_eq 17 dX10_alike_11 (by decide) (fun c => absurd c (by decide)) (fun _ => ?_)
  refine a_bipush (v := (-2)) dX10_alike_14 (by decide) ?_
  exact a_iret dX10_alike_16 rfl ⟨by first | rfl | decide +kernel | simp [*], fm_of h0 (fun a k ha => by first | rfl | (repeat rw [up2_a _ _ _ _ (by omega)]))⟩
set_option maxHeartbeats 4000000 in
set_option maxRecDepth 100000 in
theorem p_alike_3 {X : Nat × (Nat → Int32)} {fr : Nat} {M : Mem} (y : Int32) (hv_y : ¬ (y < 0 ∨ 4 ≤ y)) (h0 : Cw 126 Lj134 fs42 gs31 M) : AM yX10_alike cX10_alike 3 (some .int) true (fr + 8) 0 0 X [.ref 0, .int 3, .int y] M (fun v M1 => v = some (.int (-5)) ∧ Fm M1) := by
  refine AM.of false (by decide +kernel) (by intro h; cases h) (Nat.le_of_ble_eq_true rfl) ?_
  show AW X (RX10, cX10_alike, 3, (some .int), false, true, fr + 8) 0 0 0 [(0, .ref 0), (1, .int 3), (2, .int y)] [] M _
  refine a_iload_n dX10_alike_0 rfl rfl ?_
  refine a_callS (As := [.int 3]) (st := []) (bc := 0) (bs := 0) (mc := 0) (ms := 0) false dX10_alike_1 mw_X10_noSlot rfl (Or.inl ⟨rfl, ml_X10_151⟩) sm_X10_noSlot rfl (Nat.le_of_ble_eq_true rfl) (k_noSlot (fr := fr + 7) 3) (fun v M1 hq => ?_)
  obtain ⟨rfl, hM1⟩ := hq
  rw [hM1]
  clear hM1 M1
  refine a_st (st2 := [.int 0]) (by decide +kernel) ?_
  refine a_if_ne 14 dX10_alike_4 (by decide) (fun c => absurd (by decide) c) (fun _ => ?_)
  refine a_iload_n dX10_alike_7 rfl rfl ?_
  refine a_callS (As := [.int y]) (st := []) (bc := 0) (bs := 0) (mc := 0) (ms := 0) false dX10_alike_8 mw_X10_noSlot rfl (Or.inl ⟨rfl, ml_X10_151⟩) sm_X10_noSlot rfl (Nat.le_of_ble_eq_true rfl) (k_noSlot (fr := fr + 7) y) (fun v M1 hq => ?_)
  obtain ⟨rfl, hM1⟩ := hq
  rw [hM1]
  clear hM1 M1
  refine a_st (st2 := [.int 0]) (by rw [if_neg hv_y]; rfl) ?_
  refine a_if_eq 17 dX10_alike_11 (by decide) (fun _ => ?_) (fun c => absurd (by decide) c)
  refine a_aload_n dX10_alike_17 rfl rfl ?_
  refine a_get (v := .ref 24) dX10_alike_18 fl_10_38 (cw_l h0 (by decide)) (cw_s h0 (by decide) rfl) (cw_g h0 rfl (by decide +kernel)) ?_
  refine a_iload_n dX10_alike_21 rfl rfl ?_
  refine a_aaload (r := 34) dX10_alike_22 (cw_l h0 (by decide)) (cw_s h0 (by decide) rfl) (by unfold vp_in; decide +kernel) (cw_r h0 (by decide +kernel)) ?_
  refine a_getN (v := .int 0) dX10_alike_23 fn_10_171 (cw_l h0 (by decide)) (cw_s h0 (by decide) rfl) (cw_gi h0 rfl (by decide) (by first | decide +kernel | rfl)) ?_
  refine a_if_eq 41 dX10_alike_26 (by decide) (fun _ => ?_) (fun c => absurd (by decide) c)
  refine a_bipush (v := (-5)) dX10_alike_41 (by decide) ?_
  exact a_iret dX10_alike_43 rfl ⟨by first | rfl | decide +kernel | simp [*], fm_of h0 (fun a k ha => by first | rfl | (repeat rw [up2_a _ _ _ _ (by omega)]))⟩
