set_option maxHeartbeats 4000000 in
set_option maxRecDepth 100000 in
theorem z36_X10_tapeLacks {X : Nat × (Nat → Int32)} {fr : Nat} {M : Mem} (x : Int32) (hv_x : ¬ (x < 0 ∨ 4 ≤ x)) (n : Int32) (hn : 0 < n) (h0 : Cw 126 Lj134 fs42 gs31 M) : AM yX10_tapeLacks cX10_tapeLacks 2 (some .boolean) true (fr + 7) 0 0 X [.ref 0, .int n] M (fun v M1 => v = some (.int 1) ∧ Cw 126 Lj134 fs42 gs31 M1) := by
  refine AM.of false (by decide +kernel) (by intro h; cases h) (Nat.le_of_ble_eq_true rfl) ?_
  show AW X (RX10, cX10_tapeLacks, 2, (some .boolean), false, true, fr + 7) 0 0 0 [(0, .ref 0), (1, .int n)] [] M _
  refine a_iload_n dX10_tapeLacks_0 rfl rfl ?_
  refine a_if_lt 12 dX10_tapeLacks_1 (by decide) (fun c => absurd c (not_neg hn)) (fun _ => ?_)
  refine a_iload_n dX10_tapeLacks_4 rfl rfl ?_
  refine a_aload_n dX10_tapeLacks_5 rfl rfl ?_
  refine a_get (v := .int 0) dX10_tapeLacks_6 fl_10_112 (cw_l h0 (by decide)) (cw_s h0 (by decide) rfl) (cw_gi h0 rfl (by decide) (by first | decide +kernel | rfl)) ?_
  refine a_icmp_le 16 dX10_tapeLacks_9 (by decide) (fun c => absurd c (Int32.not_le.mpr hn)) (fun _ => ?_)
  refine a_iconst (v := 1) dX10_tapeLacks_12 (by decide) ?_
  refine a_goto 17 dX10_tapeLacks_13 (by decide) ?_
  exact a_zret dX10_tapeLacks_17 rfl (by decide) ⟨rfl, h0⟩
set_option maxHeartbeats 4000000 in
set_option maxRecDepth 100000 in
theorem p_proof_p {X : Nat × (Nat → Int32)} {fr : Nat} {M : Mem} (x : Int32) (hv_x : ¬ (x < 0 ∨ 4 ≤ x)) (n : Int32) (hn : 0 < n) (h0 : Cw 126 Lj134 fs42 gs31 M) : AM yX10_proof cX10_proof 4 (some .int) true (fr + 8) 0 0 X [.ref 0, .int x, .int n] M (fun v M1 => v = some (.int (-3)) ∧ Fm M1) := by
  refine AM.of false (by decide +kernel) (by intro h; cases h) (Nat.le_of_ble_eq_true rfl) ?_
  show AW X (RX10, cX10_proof, 4, (some .int), false, true, fr + 8) 0 0 0 [(0, .ref 0), (1, .int x), (2, .int n)] [] M _
  refine a_iload_n dX10_proof_0 rfl rfl ?_
  refine a_callS (As := [.int x]) (st := []) (bc := 0) (bs := 0) (mc := 0) (ms := 0) false dX10_proof_1 mw_X10_noSlot rfl (Or.inl ⟨rfl, ml_X10_151⟩) sm_X10_noSlot rfl (Nat.le_of_ble_eq_true rfl) (k_noSlot (fr := fr + 7) x) (fun v M1 hq => ?_)
  obtain ⟨rfl, hM1⟩ := hq
  rw [hM1]
  clear hM1 M1
  refine a_st (st2 := [.int 0]) (by rw [if_neg hv_x]; rfl) ?_
  refine a_if_eq 10 dX10_proof_4 (by decide) (fun _ => ?_) (fun c => absurd (by decide) c)
  refine a_aload_n dX10_proof_10 rfl rfl ?_
  refine a_iload_n dX10_proof_11 rfl rfl ?_
  refine a_callV (As := [.int n]) (st := []) (a := 0) (ci := 10) (bc := 0) (bs := 0) (mc := 0) (ms := 0) false dX10_proof_12 mw_X10_tapeLacks rfl (Or.inl ⟨rfl, ml_X10_119⟩) im_X10_tapeLacks se_X10_tapeLacks (by decide) (cw_l h0 (by decide)) (cw_s h0 (by decide) rfl) rfl (Nat.le_of_ble_eq_true rfl) (z36_X10_tapeLacks (fr := fr) x hv_x n hn h0) (fun v M1 hq => ?_)
  obtain ⟨rfl, h1⟩ := hq
  show AW X _ 0 0 15 _ [.int 1] _ _
  refine a_if_eq 21 dX10_proof_15 (by decide) (fun c => absurd c (by decide)) (fun _ => ?_)
  refine a_bipush (v := (-3)) dX10_proof_18 (by decide) ?_
  exact a_iret dX10_proof_20 rfl ⟨by first | rfl | decide +kernel | simp [*], fm_of h1 (fun a k ha => by first | rfl | (repeat rw [up2_a _ _ _ _ (by omega)]))⟩
set_option maxHeartbeats 4000000 in
set_option maxRecDepth 100000 in
theorem p_proof_b {X : Nat × (Nat → Int32)} {fr : Nat} {M : Mem} (x : Int32) (n : Int32) (hb_x : x < 0 ∨ 4 ≤ x) (h0 : Cw 126 Lj134 fs42 gs31 M) : AM yX10_proof cX10_proof 4 (some .int) true (fr + 8) 0 0 X [.ref 0, .int x, .int n] M (fun v M1 => v = some (.int (-2)) ∧ Fm M1) := by
  refine AM.of false (by decide +kernel) (by intro h; cases h) (Nat.le_of_ble_eq_true rfl) ?_
  show AW X (RX10, cX10_proof, 4, (some .int), false, true, fr + 8) 0 0 0 [(0, .ref 0), (1, .int x), (2, .int n)] [] M _
  refine a_iload_n dX10_proof_0 rfl rfl ?_
  refine a_callS (As := [.int x]) (st := []) (bc := 0) (bs := 0) (mc := 0) (ms := 0) false dX10_proof_1 mw_X10_noSlot rfl (Or.inl ⟨rfl, ml_X10_151⟩) sm_X10_noSlot rfl (Nat.le_of_ble_eq_true rfl) (k_noSlot (fr := fr + 7) x) (fun v M1 hq => ?_)
  obtain ⟨rfl, hM1⟩ := hq
  rw [hM1]
  clear hM1 M1
  refine a_st (st2 := [.int 1]) (by rw [if_pos hb_x]; rfl) ?_
  refine a_if_eq 10 dX10_proof_4 (by decide) (fun c => absurd c (by decide)) (fun _ => ?_)
  refine a_bipush (v := (-2)) dX10_proof_7 (by decide) ?_
  exact a_iret dX10_proof_9 rfl ⟨by first | rfl | decide +kernel | simp [*], fm_of h0 (fun a k ha => by first | rfl | (repeat rw [up2_a _ _ _ _ (by omega)]))⟩
set_option maxHeartbeats 4000000 in
set_option maxRecDepth 100000 in
theorem p_fault {X : Nat × (Nat → Int32)} {fr : Nat} {M : Mem} (w : Int32) (h0 : Cw 126 Lj134 fs42 gs31 M) : AM yX10_fault cX10_fault 2 (some .int) true (fr + 8) 0 0 X [.ref 0, .int w] M (fun v M1 => v = some (.int (if w = 0 then 0 else -1)) ∧ Fm M1) := by
  refine AM.of false (by decide +kernel) (by intro h; cases h) (Nat.le_of_ble_eq_true rfl) ?_
  show AW X (RX10, cX10_fault, 2, (some .int), false, true, fr + 8) 0 0 0 [(0, .ref 0), (1, .int w)] [] M _
  refine a_iload_n dX10_fault_0 rfl rfl ?_
  refine a_if_ne 12 dX10_fault_1 (by decide) (fun c1 => ?_) (fun c1 => ?_)
  · refine a_iload_n dX10_fault_12 rfl rfl ?_
    refine a_iconst (v := 1) dX10_fault_13 (by decide) ?_
    refine a_icmp_ne 27 dX10_fault_14 (by decide) (fun c2 => ?_) (fun c2 => ?_)
    · refine a_iconst (v := (-1)) dX10_fault_27 (by decide) ?_
      exact a_iret dX10_fault_28 rfl ⟨by solve | rfl | (repeat (first | rw [if_pos (by assumption)] | rw [if_neg (by assumption)])) | simp_all, fm_of h0 (fun a k ha => by first | rfl | (repeat rw [up2_a _ _ _ _ (by omega)]))⟩
    · refine a_aload_n dX10_fault_17 rfl rfl ?_
      refine a_get (v := .ref 14) dX10_fault_18 fl_10_32 (cw_l h0 (by decide)) (cw_s h0 (by decide) rfl) (cw_g h0 rfl (by decide +kernel)) ?_
      refine a_getN (v := .int (-1)) dX10_fault_21 fn_10_174 (cw_l h0 (by decide)) (cw_s h0 (by decide) rfl) (cw_gi h0 rfl (by decide) (by first | decide +kernel | rfl)) ?_
      refine a_goto 28 dX10_fault_24 (by decide) ?_
      exact a_iret dX10_fault_28 rfl ⟨by solve | rfl | (repeat (first | rw [if_pos (by assumption)] | rw [if_neg (by assumption)])) | simp_all, fm_of h0 (fun a k ha => by first | rfl | (repeat rw [up2_a _ _ _ _ (by omega)]))⟩
  · refine a_aload_n dX10_fault_4 rfl rfl ?_
    refine a_get (v := .ref 14) dX10_fault_5 fl_10_32 (cw_l h0 (by decide)) (cw_s h0 (by decide) rfl) (cw_g h0 rfl (by decide +kernel)) ?_
    refine a_getN (v := .int 0) dX10_fault_8 fn_10_126 (cw_l h0 (by decide)) (cw_s h0 (by decide) rfl) (cw_gi h0 rfl (by decide) (by first | decide +kernel | rfl)) ?_
    exact a_iret dX10_fault_11 rfl ⟨by solve | rfl | (repeat (first | rw [if_pos (by assumption)] | rw [if_neg (by assumption)])) | simp_all, fm_of h0 (fun a k ha => by first | rfl | (repeat rw [up2_a _ _ _ _ (by omega)]))⟩
set_option maxHeartbeats 4000000 in
set_option maxRecDepth 100000 in
theorem p_drop_b {X : Nat × (Nat → Int32)} {fr : Nat} {M : Mem} (x : Int32) (hb_x : x < 0 ∨ 4 ≤ x) (h0 : Cw 126 Lj134 fs42 gs31 M) : AM yX10_drop cX10_drop 3 (some .int) true (fr + 8) 0 0 X [.ref 0, .int x] M (fun v M1 => v = some (.int (-2)) ∧ Fm M1) := by
  refine AM.of false (by decide +kernel) (by intro h; cases h) (Nat.le_of_ble_eq_true rfl) ?_
  show AW X (RX10, cX10_drop, 3, (some .int), false, true, fr + 8) 0 0 0 [(0, .ref 0), (1, .int x)] [] M _
  refine a_iload_n dX10_drop_0 rfl rfl ?_
  refine a_callS (As := [.int x]) (st := []) (bc := 0) (bs := 0) (mc := 0) (ms := 0) false dX10_drop_1 mw_X10_noSlot rfl (Or.inl ⟨rfl, ml_X10_151⟩) sm_X10_noSlot rfl (Nat.le_of_ble_eq_true rfl) (k_noSlot (fr := fr + 7) x) (fun v M1 hq => ?_)
  obtain ⟨rfl, hM1⟩ := hq
  rw [hM1]
  clear hM1 M1
  refine a_st (st2 := [.int 1]) (by rw [if_pos hb_x]; rfl) ?_
  refine a_if_eq 10 dX10_drop_4 (by decide) (fun c => absurd c (by decide)) (fun _ => ?_)
  refine a_bipush (v := (-2)) dX10_drop_7 (by decide) ?_
  exact a_iret dX10_drop_9 rfl ⟨by first | rfl | decide +kernel | simp [*], fm_of h0 (fun a k ha => by first | rfl | (repeat rw [up2_a _ _ _ _ (by omega)]))⟩
set_option maxHeartbeats 4000000 in
set_option maxRecDepth 100000 in
theorem z37_X9_clear {X : Nat × (Nat → Int32)} {fr : Nat} {M : Mem}  (h0 : Cw 126 Lj134 fs42 gs31 M) : AM yX9_clear cX9_clear 1 none true (fr + 7) 0 0 X [.ref 25] M (fun v M1 => v = none ∧ Cw 126 Lj134 (up2 (up2 fs42 25 2 0) 25 3 0) gs31 M1) := by
  refine AM.of false (by decide +kernel) (by intro h; cases h) (Nat.le_of_ble_eq_true rfl) ?_
  show AW X (RX9, cX9_clear, 1, none, false, true, fr + 7) 0 0 0 [(0, .ref 25)] [] M _
  refine a_aload_n dX9_clear_0 rfl rfl ?_
  refine a_iconst (v := 0) dX9_clear_1 (by decide) ?_
  refine a_putI dX9_clear_2 (Or.inl ⟨fl_9_18, Or.inl rfl⟩) rfl (cw_l h0 (by decide)) (cw_s h0 (by decide) rfl) rfl rfl ?_
  have h1 : Cw 126 Lj134 (up2 fs42 25 2 0) gs31 (wI M 25 2 0) := cw_I h0 (by decide)
  generalize (wI M 25 2 0) = M1 at h1 ⊢
  refine a_aload_n dX9_clear_5 rfl rfl ?_
  refine a_iconst (v := 0) dX9_clear_6 (by decide) ?_
  refine a_putI dX9_clear_7 (Or.inl ⟨fl_9_22, Or.inl rfl⟩) rfl (cw_l h1 (by decide)) (cw_s h1 (by decide) rfl) rfl rfl ?_
  have h2 : Cw 126 Lj134 (up2 (up2 fs42 25 2 0) 25 3 0) gs31 (wI M1 25 3 0) := cw_I h1 (by decide)
  generalize (wI M1 25 3 0) = M2 at h2 ⊢
  exact a_vret dX9_clear_10 rfl ⟨rfl, h2⟩
set_option maxHeartbeats 4000000 in
set_option maxRecDepth 100000 in
theorem p_drop_0 {X : Nat × (Nat → Int32)} {fr : Nat} {M : Mem}  (h0 : Cw 126 Lj134 fs42 gs31 M) : AM yX10_drop cX10_drop 3 (some .int) true (fr + 8) 0 0 X [.ref 0, .int 0] M (fun v M1 => v = some (.int 0) ∧ Fm M1) := by
  refine AM.of false (by decide +kernel) (by intro h; cases h) (Nat.le_of_ble_eq_true rfl) ?_
  show AW X (RX10, cX10_drop, 3, (some .int), false, true, fr + 8) 0 0 0 [(0, .ref 0), (1, .int 0)] [] M _
  refine a_iload_n dX10_drop_0 rfl rfl ?_
  refine a_callS (As := [.int 0]) (st := []) (bc := 0) (bs := 0) (mc := 0) (ms := 0) false dX10_drop_1 mw_X10_noSlot rfl (Or.inl ⟨rfl, ml_X10_151⟩) sm_X10_noSlot rfl (Nat.le_of_ble_eq_true rfl) (k_noSlot (fr := fr + 7) 0) (fun v M1 hq => ?_)
  obtain ⟨rfl, hM1⟩ := hq
  rw [hM1]
  clear hM1 M1
  refine a_st (st2 := [.int 0]) (by decide +kernel) ?_
  refine a_if_eq 10 dX10_drop_4 (by decide) (fun _ => ?_) (fun c => absurd (by decide) c)
  refine a_aload_n dX10_drop_10 rfl rfl ?_
  refine a_get (v := .ref 24) dX10_drop_11 fl_10_38 (cw_l h0 (by decide)) (cw_s h0 (by decide) rfl) (cw_g h0 rfl (by decide +kernel)) ?_
  refine a_iload_n dX10_drop_14 rfl rfl ?_
  refine a_aaload (r := 25) dX10_drop_15 (cw_l h0 (by decide)) (cw_s h0 (by decide) rfl) (by unfold vp_in; decide +kernel) (cw_r h0 (by decide +kernel)) ?_
  refine a_getN (v := .int 0) dX10_drop_16 fn_10_171 (cw_l h0 (by decide)) (cw_s h0 (by decide) rfl) (cw_gi h0 rfl (by decide) (by first | decide +kernel | rfl)) ?_
  refine a_istore_n dX10_drop_19 rfl (Nat.le_of_ble_eq_true rfl) (lv2 := [(2, .int 0), (0, .ref 0), (1, .int 0)]) rfl ?_
  refine a_aload_n dX10_drop_20 rfl rfl ?_
  refine a_get (v := .ref 24) dX10_drop_21 fl_10_38 (cw_l h0 (by decide)) (cw_s h0 (by decide) rfl) (cw_g h0 rfl (by decide +kernel)) ?_
  refine a_iload_n dX10_drop_24 rfl rfl ?_
  refine a_aaload (r := 25) dX10_drop_25 (cw_l h0 (by decide)) (cw_s h0 (by decide) rfl) (by unfold vp_in; decide +kernel) (cw_r h0 (by decide +kernel)) ?_
  refine a_callV (As := []) (st := []) (a := 25) (ci := 9) (bc := 0) (bs := 0) (mc := 0) (ms := 0) false dX10_drop_26 mw_X9_clear rfl (Or.inl ⟨rfl, ml_X10_135⟩) im_X9_clear se_X9_clear (by decide) (cw_l h0 (by decide)) (cw_s h0 (by decide) rfl) rfl (Nat.le_of_ble_eq_true rfl) (z37_X9_clear (fr := fr)  h0) (fun v M1 hq => ?_)
  obtain ⟨rfl, h1⟩ := hq
  refine a_iload_n dX10_drop_29 rfl rfl ?_
  exact a_iret dX10_drop_30 rfl ⟨by solve | rfl | (repeat (first | rw [if_pos (by assumption)] | rw [if_neg (by assumption)])) | simp_all, fm_of h1 (fun a k ha => by first | rfl | (repeat rw [up2_a _ _ _ _ (by omega)]))⟩
set_option maxHeartbeats 4000000 in
set_option maxRecDepth 100000 in
theorem z38_X9_clear {X : Nat × (Nat → Int32)} {fr : Nat} {M : Mem}  (h0 : Cw 126 Lj134 fs42 gs31 M) : AM yX9_clear cX9_clear 1 none true (fr + 7) 0 0 X [.ref 28] M (fun v M1 => v = none ∧ Cw 126 Lj134 (up2 (up2 fs42 28 2 0) 28 3 0) gs31 M1) := by
  refine AM.of false (by decide +kernel) (by intro h; cases h) (Nat.le_of_ble_eq_true rfl) ?_
  show AW X (RX9, cX9_clear, 1, none, false, true, fr + 7) 0 0 0 [(0, .ref 28)] [] M _
  refine a_aload_n dX9_clear_0 rfl rfl ?_
  refine a_iconst (v := 0) dX9_clear_1 (by decide) ?_
  refine a_putI dX9_clear_2 (Or.inl ⟨fl_9_18, Or.inl rfl⟩) rfl (cw_l h0 (by decide)) (cw_s h0 (by decide) rfl) rfl rfl ?_
  have h1 : Cw 126 Lj134 (up2 fs42 28 2 0) gs31 (wI M 28 2 0) := cw_I h0 (by decide)
  generalize (wI M 28 2 0) = M1 at h1 ⊢
  refine a_aload_n dX9_clear_5 rfl rfl ?_
  refine a_iconst (v := 0) dX9_clear_6 (by decide) ?_
  refine a_putI dX9_clear_7 (Or.inl ⟨fl_9_22, Or.inl rfl⟩) rfl (cw_l h1 (by decide)) (cw_s h1 (by decide) rfl) rfl rfl ?_
  have h2 : Cw 126 Lj134 (up2 (up2 fs42 28 2 0) 28 3 0) gs31 (wI M1 28 3 0) := cw_I h1 (by decide)
  generalize (wI M1 28 3 0) = M2 at h2 ⊢
  exact a_vret dX9_clear_10 rfl ⟨rfl, h2⟩
set_option maxHeartbeats 4000000 in
set_option maxRecDepth 100000 in
theorem p_drop_1 {X : Nat × (Nat → Int32)} {fr : Nat} {M : Mem}  (h0 : Cw 126 Lj134 fs42 gs31 M) : AM yX10_drop cX10_drop 3 (some .int) true (fr + 8) 0 0 X [.ref 0, .int 1] M (fun v M1 => v = some (.int 0) ∧ Fm M1) := by
  refine AM.of false (by decide +kernel) (by intro h; cases h) (Nat.le_of_ble_eq_true rfl) ?_
  show AW X (RX10, cX10_drop, 3, (some .int), false, true, fr + 8) 0 0 0 [(0, .ref 0), (1, .int 1)] [] M _
  refine a_iload_n dX10_drop_0 rfl rfl ?_
  refine a_callS (As := [.int 1]) (st := []) (bc := 0) (bs := 0) (mc := 0) (ms := 0) false dX10_drop_1 mw_X10_noSlot rfl (Or.inl ⟨rfl, ml_X10_151⟩) sm_X10_noSlot rfl (Nat.le_of_ble_eq_true rfl) (k_noSlot (fr := fr + 7) 1) (fun v M1 hq => ?_)
  obtain ⟨rfl, hM1⟩ := hq
  rw [hM1]
  clear hM1 M1
  refine a_st (st2 := [.int 0]) (by decide +kernel) ?_
  refine a_if_eq 10 dX10_drop_4 (by decide) (fun _ => ?_) (fun c => absurd (by decide) c)
  refine a_aload_n dX10_drop_10 rfl rfl ?_
  refine a_get (v := .ref 24) dX10_drop_11 fl_10_38 (cw_l h0 (by decide)) (cw_s h0 (by decide) rfl) (cw_g h0 rfl (by decide +kernel)) ?_
  refine a_iload_n dX10_drop_14 rfl rfl ?_
  refine a_aaload (r := 28) dX10_drop_15 (cw_l h0 (by decide)) (cw_s h0 (by decide) rfl) (by unfold vp_in; decide +kernel) (cw_r h0 (by decide +kernel)) ?_
  refine a_getN (v := .int 0) dX10_drop_16 fn_10_171 (cw_l h0 (by decide)) (cw_s h0 (by decide) rfl) (cw_gi h0 rfl (by decide) (by first | decide +kernel | rfl)) ?_
  refine a_istore_n dX10_drop_19 rfl (Nat.le_of_ble_eq_true rfl) (lv2 := [(2, .int 0), (0, .ref 0), (1, .int 1)]) rfl ?_
  refine a_aload_n dX10_drop_20 rfl rfl ?_
  refine a_get (v := .ref 24) dX10_drop_21 fl_10_38 (cw_l h0 (by decide)) (cw_s h0 (by decide) rfl) (cw_g h0 rfl (by decide +kernel)) ?_
  refine a_iload_n dX10_drop_24 rfl rfl ?_
  refine a_aaload (r := 28) dX10_drop_25 (cw_l h0 (by decide)) (cw_s h0 (by decide) rfl) (by unfold vp_in; decide +kernel) (cw_r h0 (by decide +kernel)) ?_
  refine a_callV (As := []) (st := []) (a := 28) (ci := 9) (bc := 0) (bs := 0) (mc := 0) (ms := 0) false dX10_drop_26 mw_X9_clear rfl (Or.inl ⟨rfl, ml_X10_135⟩) im_X9_clear se_X9_clear (by decide) (cw_l h0 (by decide)) (cw_s h0 (by decide) rfl) rfl (Nat.le_of_ble_eq_true rfl) (z38_X9_clear (fr := fr)  h0) (fun v M1 hq => ?_)
  obtain ⟨rfl, h1⟩ := hq
  refine a_iload_n dX10_drop_29 rfl rfl ?_
  exact a_iret dX10_drop_30 rfl ⟨by solve | rfl | (repeat (first | rw [if_pos (by assumption)] | rw [if_neg (by assumption)])) | simp_all, fm_of h1 (fun a k ha => by first | rfl | (repeat rw [up2_a _ _ _ _ (by omega)]))⟩
set_option maxHeartbeats 4000000 in
set_option maxRecDepth 100000 in
theorem z39_X9_clear {X : Nat × (Nat → Int32)} {fr : Nat} {M : Mem}  (h0 : Cw 126 Lj134 fs42 gs31 M) : AM yX9_clear cX9_clear 1 none true (fr + 7) 0 0 X [.ref 31] M (fun v M1 => v = none ∧ Cw 126 Lj134 (up2 (up2 fs42 31 2 0) 31 3 0) gs31 M1) := by
  refine AM.of false (by decide +kernel) (by intro h; cases h) (Nat.le_of_ble_eq_true rfl) ?_
  show AW X (RX9, cX9_clear, 1, none, false, true, fr + 7) 0 0 0 [(0, .ref 31)] [] M _
  refine a_aload_n dX9_clear_0 rfl rfl ?_
  refine a_iconst (v := 0) dX9_clear_1 (by decide) ?_
  refine a_putI dX9_clear_2 (Or.inl ⟨fl_9_18, Or.inl rfl⟩) rfl (cw_l h0 (by decide)) (cw_s h0 (by decide) rfl) rfl rfl ?_
  have h1 : Cw 126 Lj134 (up2 fs42 31 2 0) gs31 (wI M 31 2 0) := cw_I h0 (by decide)
  generalize (wI M 31 2 0) = M1 at h1 ⊢
  refine a_aload_n dX9_clear_5 rfl rfl ?_
  refine a_iconst (v := 0) dX9_clear_6 (by decide) ?_
  refine a_putI dX9_clear_7 (Or.inl ⟨fl_9_22, Or.inl rfl⟩) rfl (cw_l h1 (by decide)) (cw_s h1 (by decide) rfl) rfl rfl ?_
  have h2 : Cw 126 Lj134 (up2 (up2 fs42 31 2 0) 31 3 0) gs31 (wI M1 31 3 0) := cw_I h1 (by decide)
  generalize (wI M1 31 3 0) = M2 at h2 ⊢
  exact a_vret dX9_clear_10 rfl ⟨rfl, h2⟩
set_option maxHeartbeats 4000000 in
set_option maxRecDepth 100000 in
theorem p_drop_2 {X : Nat × (Nat → Int32)} {fr : Nat} {M : Mem}  (h0 : Cw 126 Lj134 fs42 gs31 M) : AM yX10_drop cX10_drop 3 (some .int) true (fr + 8) 0 0 X [.ref 0, .int 2] M (fun v M1 => v = some (.int 0) ∧ Fm M1) := by
  refine AM.of false (by decide +kernel) (by intro h; cases h) (Nat.le_of_ble_eq_true rfl) ?_
  show AW X (RX10, cX10_drop, 3, (some .int), false, true, fr + 8) 0 0 0 [(0, .ref 0), (1, .int 2)] [] M _
  refine a_iload_n dX10_drop_0 rfl rfl ?_
  refine a_callS (As := [.int 2]) (st := []) (bc := 0) (bs := 0) (mc := 0) (ms := 0) false dX10_drop_1 mw_X10_noSlot rfl (Or.inl ⟨rfl, ml_X10_151⟩) sm_X10_noSlot rfl (Nat.le_of_ble_eq_true rfl) (k_noSlot (fr := fr + 7) 2) (fun v M1 hq => ?_)
  obtain ⟨rfl, hM1⟩ := hq
  rw [hM1]
  clear hM1 M1
  refine a_st (st2 := [.int 0]) (by decide +kernel) ?_
  refine a_if_eq 10 dX10_drop_4 (by decide) (fun _ => ?_) (fun c => absurd (by decide) c)
  refine a_aload_n dX10_drop_10 rfl rfl ?_
  refine a_get (v := .ref 24) dX10_drop_11 fl_10_38 (cw_l h0 (by decide)) (cw_s h0 (by decide) rfl) (cw_g h0 rfl (by decide +kernel)) ?_
  refine a_iload_n dX10_drop_14 rfl rfl ?_
  refine a_aaload (r := 31) dX10_drop_15 (cw_l h0 (by decide)) (cw_s h0 (by decide) rfl) (by unfold vp_in; decide +kernel) (cw_r h0 (by decide +kernel)) ?_
  refine a_getN (v := .int 0) dX10_drop_16 fn_10_171 (cw_l h0 (by decide)) (cw_s h0 (by decide) rfl) (cw_gi h0 rfl (by decide) (by first | decide +kernel | rfl)) ?_
  refine a_istore_n dX10_drop_19 rfl (Nat.le_of_ble_eq_true rfl) (lv2 := [(2, .int 0), (0, .ref 0), (1, .int 2)]) rfl ?_
  refine a_aload_n dX10_drop_20 rfl rfl ?_
  refine a_get (v := .ref 24) dX10_drop_21 fl_10_38 (cw_l h0 (by decide)) (cw_s h0 (by decide) rfl) (cw_g h0 rfl (by decide +kernel)) ?_
  refine a_iload_n dX10_drop_24 rfl rfl ?_
  refine a_aaload (r := 31) dX10_drop_25 (cw_l h0 (by decide)) (cw_s h0 (by decide) rfl) (by unfold vp_in; decide +kernel) (cw_r h0 (by decide +kernel)) ?_
  refine a_callV (As := []) (st := []) (a := 31) (ci := 9) (bc := 0) (bs := 0) (mc := 0) (ms := 0) false dX10_drop_26 mw_X9_clear rfl (Or.inl ⟨rfl, ml_X10_135⟩) im_X9_clear se_X9_clear (by decide) (cw_l h0 (by decide)) (cw_s h0 (by decide) rfl) rfl (Nat.le_of_ble_eq_true rfl) (z39_X9_clear (fr := fr)  h0) (fun v M1 hq => ?_)
  obtain ⟨rfl, h1⟩ := hq
  refine a_iload_n dX10_drop_29 rfl rfl ?_
  exact a_iret dX10_drop_30 rfl ⟨by solve | rfl | (repeat (first | rw [if_pos (by assumption)] | rw [if_neg (by assumption)])) | simp_all, fm_of h1 (fun a k ha => by first | rfl | (repeat rw [up2_a _ _ _ _ (by omega)]))⟩
set_option maxHeartbeats 4000000 in
set_option maxRecDepth 100000 in
theorem z40_X9_clear {X : Nat × (Nat → Int32)} {fr : Nat} {M : Mem}  (h0 : Cw 126 Lj134 fs42 gs31 M) : AM yX9_clear cX9_clear 1 none true (fr + 7) 0 0 X [.ref 34] M (fun v M1 => v = none ∧ Cw 126 Lj134 (up2 (up2 fs42 34 2 0) 34 3 0) gs31 M1) := by
  refine AM.of false (by decide +kernel) (by intro h; cases h) (Nat.le_of_ble_eq_true rfl) ?_
  show AW X (RX9, cX9_clear, 1, none, false, true, fr + 7) 0 0 0 [(0, .ref 34)] [] M _
  refine a_aload_n dX9_clear_0 rfl rfl ?_
  refine a_iconst (v := 0) dX9_clear_1 (by decide) ?_
  refine a_putI dX9_clear_2 (Or.inl ⟨fl_9_18, Or.inl rfl⟩) rfl (cw_l h0 (by decide)) (cw_s h0 (by decide) rfl) rfl rfl ?_
  have h1 : Cw 126 Lj134 (up2 fs42 34 2 0) gs31 (wI M 34 2 0) := cw_I h0 (by decide)
  generalize (wI M 34 2 0) = M1 at h1 ⊢
  refine a_aload_n dX9_clear_5 rfl rfl ?_
  refine a_iconst (v := 0) dX9_clear_6 (by decide) ?_
  refine a_putI dX9_clear_7 (Or.inl ⟨fl_9_22, Or.inl rfl⟩) rfl (cw_l h1 (by decide)) (cw_s h1 (by decide) rfl) rfl rfl ?_
  have h2 : Cw 126 Lj134 (up2 (up2 fs42 34 2 0) 34 3 0) gs31 (wI M1 34 3 0) := cw_I h1 (by decide)
  generalize (wI M1 34 3 0) = M2 at h2 ⊢
  exact a_vret dX9_clear_10 rfl ⟨rfl, h2⟩
set_option maxHeartbeats 4000000 in
set_option maxRecDepth 100000 in
theorem p_drop_3 {X : Nat × (Nat → Int32)} {fr : Nat} {M : Mem}  (h0 : Cw 126 Lj134 fs42 gs31 M) : AM yX10_drop cX10_drop 3 (some .int) true (fr + 8) 0 0 X [.ref 0, .int 3] M (fun v M1 => v = some (.int 0) ∧ Fm M1) := by
  refine AM.of false (by decide +kernel) (by intro h; cases h) (Nat.le_of_ble_eq_true rfl) ?_
  show AW X (RX10, cX10_drop, 3, (some .int), false, true, fr + 8) 0 0 0 [(0, .ref 0), (1, .int 3)] [] M _
  refine a_iload_n dX10_drop_0 rfl rfl ?_
  refine a_callS (As := [.int 3]) (st := []) (bc := 0) (bs := 0) (mc := 0) (ms := 0) false dX10_drop_1 mw_X10_noSlot rfl (Or.inl ⟨rfl, ml_X10_151⟩) sm_X10_noSlot rfl (Nat.le_of_ble_eq_true rfl) (k_noSlot (fr := fr + 7) 3) (fun v M1 hq => ?_)
  obtain ⟨rfl, hM1⟩ := hq
  rw [hM1]
  clear hM1 M1
  refine a_st (st2 := [.int 0]) (by decide +kernel) ?_
  refine a_if_eq 10 dX10_drop_4 (by decide) (fun _ => ?_) (fun c => absurd (by decide) c)
  refine a_aload_n dX10_drop_10 rfl rfl ?_
  refine a_get (v := .ref 24) dX10_drop_11 fl_10_38 (cw_l h0 (by decide)) (cw_s h0 (by decide) rfl) (cw_g h0 rfl (by decide +kernel)) ?_
  refine a_iload_n dX10_drop_14 rfl rfl ?_
  refine a_aaload (r := 34) dX10_drop_15 (cw_l h0 (by decide)) (cw_s h0 (by decide) rfl) (by unfold vp_in; decide +kernel) (cw_r h0 (by decide +kernel)) ?_
  refine a_getN (v := .int 0) dX10_drop_16 fn_10_171 (cw_l h0 (by decide)) (cw_s h0 (by decide) rfl) (cw_gi h0 rfl (by decide) (by first | decide +kernel | rfl)) ?_
  refine a_istore_n dX10_drop_19 rfl (Nat.le_of_ble_eq_true rfl) (lv2 := [(2, .int 0), (0, .ref 0), (1, .int 3)]) rfl ?_
  refine a_aload_n dX10_drop_20 rfl rfl ?_
  refine a_get (v := .ref 24) dX10_drop_21 fl_10_38 (cw_l h0 (by decide)) (cw_s h0 (by decide) rfl) (cw_g h0 rfl (by decide +kernel)) ?_
  refine a_iload_n dX10_drop_24 rfl rfl ?_
  refine a_aaload (r := 34) dX10_drop_25 (cw_l h0 (by decide)) (cw_s h0 (by decide) rfl) (by unfold vp_in; decide +kernel) (cw_r h0 (by decide +kernel)) ?_
  refine a_callV (As := []) (st := []) (a := 34) (ci := 9) (bc := 0) (bs := 0) (mc := 0) (ms := 0) false dX10_drop_26 mw_X9_clear rfl (Or.inl ⟨rfl, ml_X10_135⟩) im_X9_clear se_X9_clear (by decide) (cw_l h0 (by decide)) (cw_s h0 (by decide) rfl) rfl (Nat.le_of_ble_eq_true rfl) (z40_X9_clear (fr := fr)  h0) (fun v M1 hq => ?_)
  obtain ⟨rfl, h1⟩ := hq
  refine a_iload_n dX10_drop_29 rfl rfl ?_
  exact a_iret dX10_drop_30 rfl ⟨by solve | rfl | (repeat (first | rw [if_pos (by assumption)] | rw [if_neg (by assumption)])) | simp_all, fm_of h1 (fun a k ha => by first | rfl | (repeat rw [up2_a _ _ _ _ (by omega)]))⟩
set_option maxHeartbeats 4000000 in
set_option maxRecDepth 100000 in
theorem p_step_b {X : Nat × (Nat → Int32)} {fr : Nat} {M : Mem} (x : Int32) (hb_x : x < 0 ∨ 4 ≤ x) (h0 : Cw 126 Lj134 fs42 gs31 M) : AM yX10_step cX10_step 3 (some .int) true (fr + 8) 0 0 X [.ref 0, .int x] M (fun v M1 => v = some (.int (-2)) ∧ Fm M1) := by
  refine AM.of false (by decide +kernel) (by intro h; cases h) (Nat.le_of_ble_eq_true rfl) ?_
  show AW X (RX10, cX10_step, 3, (some .int), false, true, fr + 8) 0 0 0 [(0, .ref 0), (1, .int x)] [] M _
  refine a_iload_n dX10_step_0 rfl rfl ?_
  refine a_callS (As := [.int x]) (st := []) (bc := 0) (bs := 0) (mc := 0) (ms := 0) false dX10_step_1 mw_X10_noSlot rfl (Or.inl ⟨rfl, ml_X10_151⟩) sm_X10_noSlot rfl (Nat.le_of_ble_eq_true rfl) (k_noSlot (fr := fr + 7) x) (fun v M1 hq => ?_)
  obtain ⟨rfl, hM1⟩ := hq
  rw [hM1]
  clear hM1 M1
  refine a_st (st2 := [.int 1]) (by rw [if_pos hb_x]; rfl) ?_
  refine a_if_eq 10 dX10_step_4 (by decide) (fun c => absurd c (by decide)) (fun _ => ?_)
  refine a_bipush (v := (-2)) dX10_step_7 (by decide) ?_
  exact a_iret dX10_step_9 rfl ⟨by first | rfl | decide +kernel | simp [*], fm_of h0 (fun a k ha => by first | rfl | (repeat rw [up2_a _ _ _ _ (by omega)]))⟩
set_option maxHeartbeats 4000000 in
set_option maxRecDepth 100000 in
theorem p_step_0 {X : Nat × (Nat → Int32)} {fr : Nat} {M : Mem}  (h0 : Cw 126 Lj134 fs42 gs31 M) : AM yX10_step cX10_step 3 (some .int) true (fr + 8) 0 0 X [.ref 0, .int 0] M (fun v M1 => v = some (.int (-5)) ∧ Fm M1) := by
  refine AM.of false (by decide +kernel) (by intro h; cases h) (Nat.le_of_ble_eq_true rfl) ?_
  show AW X (RX10, cX10_step, 3, (some .int), false, true, fr + 8) 0 0 0 [(0, .ref 0), (1, .int 0)] [] M _
  refine a_iload_n dX10_step_0 rfl rfl ?_
  refine a_callS (As := [.int 0]) (st := []) (bc := 0) (bs := 0) (mc := 0) (ms := 0) false dX10_step_1 mw_X10_noSlot rfl (Or.inl ⟨rfl, ml_X10_151⟩) sm_X10_noSlot rfl (Nat.le_of_ble_eq_true rfl) (k_noSlot (fr := fr + 7) 0) (fun v M1 hq => ?_)
  obtain ⟨rfl, hM1⟩ := hq
  rw [hM1]
  clear hM1 M1
  refine a_st (st2 := [.int 0]) (by decide +kernel) ?_
  refine a_if_eq 10 dX10_step_4 (by decide) (fun _ => ?_) (fun c => absurd (by decide) c)
  refine a_aload_n dX10_step_10 rfl rfl ?_
  refine a_get (v := .ref 24) dX10_step_11 fl_10_38 (cw_l h0 (by decide)) (cw_s h0 (by decide) rfl) (cw_g h0 rfl (by decide +kernel)) ?_
  refine a_iload_n dX10_step_14 rfl rfl ?_
  refine a_aaload (r := 25) dX10_step_15 (cw_l h0 (by decide)) (cw_s h0 (by decide) rfl) (by unfold vp_in; decide +kernel) (cw_r h0 (by decide +kernel)) ?_
  refine a_getN (v := .int 0) dX10_step_16 fn_10_171 (cw_l h0 (by decide)) (cw_s h0 (by decide) rfl) (cw_gi h0 rfl (by decide) (by first | decide +kernel | rfl)) ?_
  refine a_if_ne 25 dX10_step_19 (by decide) (fun c => absurd (by decide) c) (fun _ => ?_)
  refine a_bipush (v := (-5)) dX10_step_22 (by decide) ?_
  exact a_iret dX10_step_24 rfl ⟨by solve | rfl | (repeat (first | rw [if_pos (by assumption)] | rw [if_neg (by assumption)])) | simp_all, fm_of h0 (fun a k ha => by first | rfl | (repeat rw [up2_a _ _ _ _ (by omega)]))⟩
set_option maxHeartbeats 4000000 in
set_option maxRecDepth 100000 in
theorem p_step_1 {X : Nat × (Nat → Int32)} {fr : Nat} {M : Mem}  (h0 : Cw 126 Lj134 fs42 gs31 M) : AM yX10_step cX10_step 3 (some .int) true (fr + 8) 0 0 X [.ref 0, .int 1] M (fun v M1 => v = some (.int (-5)) ∧ Fm M1) := by
  refine AM.of false (by decide +kernel) (by intro h; cases h) (Nat.le_of_ble_eq_true rfl) ?_
  show AW X (RX10, cX10_step, 3, (some .int), false, true, fr + 8) 0 0 0 [(0, .ref 0), (1, .int 1)] [] M _
  refine a_iload_n dX10_step_0 rfl rfl ?_
  refine a_callS (As := [.int 1]) (st := []) (bc := 0) (bs := 0) (mc := 0) (ms := 0) false dX10_step_1 mw_X10_noSlot rfl (Or.inl ⟨rfl, ml_X10_151⟩) sm_X10_noSlot rfl (Nat.le_of_ble_eq_true rfl) (k_noSlot (fr := fr + 7) 1) (fun v M1 hq => ?_)
  obtain ⟨rfl, hM1⟩ := hq
  rw [hM1]
  clear hM1 M1
  refine a_st (st2 := [.int 0]) (by decide +kernel) ?_
  refine a_if_eq 10 dX10_step_4 (by decide) (fun _ => ?_) (fun c => absurd (by decide) c)
  refine a_aload_n dX10_step_10 rfl rfl ?_
  refine a_get (v := .ref 24) dX10_step_11 fl_10_38 (cw_l h0 (by decide)) (cw_s h0 (by decide) rfl) (cw_g h0 rfl (by decide +kernel)) ?_
  refine a_iload_n dX10_step_14 rfl rfl ?_
  refine a_aaload (r := 28) dX10_step_15 (cw_l h0 (by decide)) (cw_s h0 (by decide) rfl) (by unfold vp_in; decide +kernel) (cw_r h0 (by decide +kernel)) ?_
  refine a_getN (v := .int 0) dX10_step_16 fn_10_171 (cw_l h0 (by decide)) (cw_s h0 (by decide) rfl) (cw_gi h0 rfl (by decide) (by first | decide +kernel | rfl)) ?_
  refine a_if_ne 25 dX10_step_19 (by decide) (fun c => absurd (by decide) c) (fun _ => ?_)
  refine a_bipush (v := (-5)) dX10_step_22 (by decide) ?_
  exact a_iret dX10_step_24 rfl ⟨by solve | rfl | (repeat (first | rw [if_pos (by assumption)] | rw [if_neg (by assumption)])) | simp_all, fm_of h0 (fun a k ha => by first | rfl | (repeat rw [up2_a _ _ _ _ (by omega)]))⟩
set_option maxHeartbeats 4000000 in
set_option maxRecDepth 100000 in
theorem p_step_2 {X : Nat × (Nat → Int32)} {fr : Nat} {M : Mem}  (h0 : Cw 126 Lj134 fs42 gs31 M) : AM yX10_step cX10_step 3 (some .int) true (fr + 8) 0 0 X [.ref 0, .int 2] M (fun v M1 => v = some (.int (-5)) ∧ Fm M1) := by
  refine AM.of false (by decide +kernel) (by intro h; cases h) (Nat.le_of_ble_eq_true rfl) ?_
  show AW X (RX10, cX10_step, 3, (some .int), false, true, fr + 8) 0 0 0 [(0, .ref 0), (1, .int 2)] [] M _
  refine a_iload_n dX10_step_0 rfl rfl ?_
  refine a_callS (As := [.int 2]) (st := []) (bc := 0) (bs := 0) (mc := 0) (ms := 0) false dX10_step_1 mw_X10_noSlot rfl (Or.inl ⟨rfl, ml_X10_151⟩) sm_X10_noSlot rfl (Nat.le_of_ble_eq_true rfl) (k_noSlot (fr := fr + 7) 2) (fun v M1 hq => ?_)
  obtain ⟨rfl, hM1⟩ := hq
  rw [hM1]
  clear hM1 M1
  refine a_st (st2 := [.int 0]) (by decide +kernel) ?_
  refine a_if_eq 10 dX10_step_4 (by decide) (fun _ => ?_) (fun c => absurd (by decide) c)
  refine a_aload_n dX10_step_10 rfl rfl ?_
  refine a_get (v := .ref 24) dX10_step_11 fl_10_38 (cw_l h0 (by decide)) (cw_s h0 (by decide) rfl) (cw_g h0 rfl (by decide +kernel)) ?_
  refine a_iload_n dX10_step_14 rfl rfl ?_
  refine a_aaload (r := 31) dX10_step_15 (cw_l h0 (by decide)) (cw_s h0 (by decide) rfl) (by unfold vp_in; decide +kernel) (cw_r h0 (by decide +kernel)) ?_
  refine a_getN (v := .int 0) dX10_step_16 fn_10_171 (cw_l h0 (by decide)) (cw_s h0 (by decide) rfl) (cw_gi h0 rfl (by decide) (by first | decide +kernel | rfl)) ?_
  refine a_if_ne 25 dX10_step_19 (by decide) (fun c => absurd (by decide) c) (fun _ => ?_)
  refine a_bipush (v := (-5)) dX10_step_22 (by decide) ?_
  exact a_iret dX10_step_24 rfl ⟨by solve | rfl | (repeat (first | rw [if_pos (by assumption)] | rw [if_neg (by assumption)])) | simp_all, fm_of h0 (fun a k ha => by first | rfl | (repeat rw [up2_a _ _ _ _ (by omega)]))⟩
set_option maxHeartbeats 4000000 in
set_option maxRecDepth 100000 in
theorem p_step_3 {X : Nat × (Nat → Int32)} {fr : Nat} {M : Mem}  (h0 : Cw 126 Lj134 fs42 gs31 M) : AM yX10_step cX10_step 3 (some .int) true (fr + 8) 0 0 X [.ref 0, .int 3] M (fun v M1 => v = some (.int (-5)) ∧ Fm M1) := by
  refine AM.of false (by decide +kernel) (by intro h; cases h) (Nat.le_of_ble_eq_true rfl) ?_
  show AW X (RX10, cX10_step, 3, (some .int), false, true, fr + 8) 0 0 0 [(0, .ref 0), (1, .int 3)] [] M _
  refine a_iload_n dX10_step_0 rfl rfl ?_
  refine a_callS (As := [.int 3]) (st := []) (bc := 0) (bs := 0) (mc := 0) (ms := 0) false dX10_step_1 mw_X10_noSlot rfl (Or.inl ⟨rfl, ml_X10_151⟩) sm_X10_noSlot rfl (Nat.le_of_ble_eq_true rfl) (k_noSlot (fr := fr + 7) 3) (fun v M1 hq => ?_)
  obtain ⟨rfl, hM1⟩ := hq
  rw [hM1]
  clear hM1 M1
  refine a_st (st2 := [.int 0]) (by decide +kernel) ?_
  refine a_if_eq 10 dX10_step_4 (by decide) (fun _ => ?_) (fun c => absurd (by decide) c)
  refine a_aload_n dX10_step_10 rfl rfl ?_
  refine a_get (v := .ref 24) dX10_step_11 fl_10_38 (cw_l h0 (by decide)) (cw_s h0 (by decide) rfl) (cw_g h0 rfl (by decide +kernel)) ?_
  refine a_iload_n dX10_step_14 rfl rfl ?_
  refine a_aaload (r := 34) dX10_step_15 (cw_l h0 (by decide)) (cw_s h0 (by decide) rfl) (by unfold vp_in; decide +kernel) (cw_r h0 (by decide +kernel)) ?_
  refine a_getN (v := .int 0) dX10_step_16 fn_10_171 (cw_l h0 (by decide)) (cw_s h0 (by decide) rfl) (cw_gi h0 rfl (by decide) (by first | decide +kernel | rfl)) ?_
  refine a_if_ne 25 dX10_step_19 (by decide) (fun c => absurd (by decide) c) (fun _ => ?_)
  refine a_bipush (v := (-5)) dX10_step_22 (by decide) ?_
  exact a_iret dX10_step_24 rfl ⟨by solve | rfl | (repeat (first | rw [if_pos (by assumption)] | rw [if_neg (by assumption)])) | simp_all, fm_of h0 (fun a k ha => by first | rfl | (repeat rw [up2_a _ _ _ _ (by omega)]))⟩
set_option maxHeartbeats 4000000 in
set_option maxRecDepth 100000 in
theorem p_normal_b {X : Nat × (Nat → Int32)} {fr : Nat} {M : Mem} (x : Int32) (hb_x : x < 0 ∨ 4 ≤ x) (h0 : Cw 126 Lj134 fs42 gs31 M) : AM yX10_normal cX10_normal 3 (some .int) true (fr + 8) 0 0 X [.ref 0, .int x] M (fun v M1 => v = some (.int (-2)) ∧ Fm M1) := by
  refine AM.of false (by decide +kernel) (by intro h; cases h) (Nat.le_of_ble_eq_true rfl) ?_
  show AW X (RX10, cX10_normal, 3, (some .int), false, true, fr + 8) 0 0 0 [(0, .ref 0), (1, .int x)] [] M _
  refine a_iload_n dX10_normal_0 rfl rfl ?_
  refine a_callS (As := [.int x]) (st := []) (bc := 0) (bs := 0) (mc := 0) (ms := 0) false dX10_normal_1 mw_X10_noSlot rfl (Or.inl ⟨rfl, ml_X10_151⟩) sm_X10_noSlot rfl (Nat.le_of_ble_eq_true rfl) (k_noSlot (fr := fr + 7) x) (fun v M1 hq => ?_)
  obtain ⟨rfl, hM1⟩ := hq
  rw [hM1]
  clear hM1 M1
  refine a_st (st2 := [.int 1]) (by rw [if_pos hb_x]; rfl) ?_
  refine a_if_eq 10 dX10_normal_4 (by decide) (fun c => absurd c (by decide)) (fun _ => ?_)
  refine a_bipush (v := (-2)) dX10_normal_7 (by decide) ?_
  exact a_iret dX10_normal_9 rfl ⟨by first | rfl | decide +kernel | simp [*], fm_of h0 (fun a k ha => by first | rfl | (repeat rw [up2_a _ _ _ _ (by omega)]))⟩
set_option maxHeartbeats 4000000 in
set_option maxRecDepth 100000 in
theorem p_normal_0 {X : Nat × (Nat → Int32)} {fr : Nat} {M : Mem}  (h0 : Cw 126 Lj134 fs42 gs31 M) : AM yX10_normal cX10_normal 3 (some .int) true (fr + 8) 0 0 X [.ref 0, .int 0] M (fun v M1 => v = some (.int (-5)) ∧ Fm M1) := by
  refine AM.of false (by decide +kernel) (by intro h; cases h) (Nat.le_of_ble_eq_true rfl) ?_
  show AW X (RX10, cX10_normal, 3, (some .int), false, true, fr + 8) 0 0 0 [(0, .ref 0), (1, .int 0)] [] M _
  refine a_iload_n dX10_normal_0 rfl rfl ?_
  refine a_callS (As := [.int 0]) (st := []) (bc := 0) (bs := 0) (mc := 0) (ms := 0) false dX10_normal_1 mw_X10_noSlot rfl (Or.inl ⟨rfl, ml_X10_151⟩) sm_X10_noSlot rfl (Nat.le_of_ble_eq_true rfl) (k_noSlot (fr := fr + 7) 0) (fun v M1 hq => ?_)
  obtain ⟨rfl, hM1⟩ := hq
  rw [hM1]
  clear hM1 M1
  refine a_st (st2 := [.int 0]) (by decide +kernel) ?_
  refine a_if_eq 10 dX10_normal_4 (by decide) (fun _ => ?_) (fun c => absurd (by decide) c)
  refine a_aload_n dX10_normal_10 rfl rfl ?_
  refine a_get (v := .ref 24) dX10_normal_11 fl_10_38 (cw_l h0 (by decide)) (cw_s h0 (by decide) rfl) (cw_g h0 rfl (by decide +kernel)) ?_
  refine a_iload_n dX10_normal_14 rfl rfl ?_
  refine a_aaload (r := 25) dX10_normal_15 (cw_l h0 (by decide)) (cw_s h0 (by decide) rfl) (by unfold vp_in; decide +kernel) (cw_r h0 (by decide +kernel)) ?_
  refine a_getN (v := .int 0) dX10_normal_16 fn_10_171 (cw_l h0 (by decide)) (cw_s h0 (by decide) rfl) (cw_gi h0 rfl (by decide) (by first | decide +kernel | rfl)) ?_
  refine a_if_ne 25 dX10_normal_19 (by decide) (fun c => absurd (by decide) c) (fun _ => ?_)
  refine a_bipush (v := (-5)) dX10_normal_22 (by decide) ?_
  exact a_iret dX10_normal_24 rfl ⟨by solve | rfl | (repeat (first | rw [if_pos (by assumption)] | rw [if_neg (by assumption)])) | simp_all, fm_of h0 (fun a k ha => by first | rfl | (repeat rw [up2_a _ _ _ _ (by omega)]))⟩
set_option maxHeartbeats 4000000 in
set_option maxRecDepth 100000 in
theorem p_normal_1 {X : Nat × (Nat → Int32)} {fr : Nat} {M : Mem}  (h0 : Cw 126 Lj134 fs42 gs31 M) : AM yX10_normal cX10_normal 3 (some .int) true (fr + 8) 0 0 X [.ref 0, .int 1] M (fun v M1 => v = some (.int (-5)) ∧ Fm M1) := by
  refine AM.of false (by decide +kernel) (by intro h; cases h) (Nat.le_of_ble_eq_true rfl) ?_
  show AW X (RX10, cX10_normal, 3, (some .int), false, true, fr + 8) 0 0 0 [(0, .ref 0), (1, .int 1)] [] M _
  refine a_iload_n dX10_normal_0 rfl rfl ?_
  refine a_callS (As := [.int 1]) (st := []) (bc := 0) (bs := 0) (mc := 0) (ms := 0) false dX10_normal_1 mw_X10_noSlot rfl (Or.inl ⟨rfl, ml_X10_151⟩) sm_X10_noSlot rfl (Nat.le_of_ble_eq_true rfl) (k_noSlot (fr := fr + 7) 1) (fun v M1 hq => ?_)
  obtain ⟨rfl, hM1⟩ := hq
  rw [hM1]
  clear hM1 M1
  refine a_st (st2 := [.int 0]) (by decide +kernel) ?_
  refine a_if_eq 10 dX10_normal_4 (by decide) (fun _ => ?_) (fun c => absurd (by decide) c)
  refine a_aload_n dX10_normal_10 rfl rfl ?_
  refine a_get (v := .ref 24) dX10_normal_11 fl_10_38 (cw_l h0 (by decide)) (cw_s h0 (by decide) rfl) (cw_g h0 rfl (by decide +kernel)) ?_
  refine a_iload_n dX10_normal_14 rfl rfl ?_
  refine a_aaload (r := 28) dX10_normal_15 (cw_l h0 (by decide)) (cw_s h0 (by decide) rfl) (by unfold vp_in; decide +kernel) (cw_r h0 (by decide +kernel)) ?_
  refine a_getN (v := .int 0) dX10_normal_16 fn_10_171 (cw_l h0 (by decide)) (cw_s h0 (by decide) rfl) (cw_gi h0 rfl (by decide) (by first | decide +kernel | rfl)) ?_
  refine a_if_ne 25 dX10_normal_19 (by decide) (fun c => absurd (by decide) c) (fun _ => ?_)
  refine a_bipush (v := (-5)) dX10_normal_22 (by decide) ?_
  exact a_iret dX10_normal_24 rfl ⟨by solve | rfl | (repeat (first | rw [if_pos (by assumption)] | rw [if_neg (by assumption)])) | simp_all, fm_of h0 (fun a k ha => by first | rfl | (repeat rw [up2_a _ _ _ _ (by omega)]))⟩
set_option maxHeartbeats 4000000 in
set_option maxRecDepth 100000 in
theorem p_normal_2 {X : Nat × (Nat → Int32)} {fr : Nat} {M : Mem}  (h0 : Cw 126 Lj134 fs42 gs31 M) : AM yX10_normal cX10_normal 3 (some .int) true (fr + 8) 0 0 X [.ref 0, .int 2] M (fun v M1 => v = some (.int (-5)) ∧ Fm M1) := by
  refine AM.of false (by decide +kernel) (by intro h; cases h) (Nat.le_of_ble_eq_true rfl) ?_
  show AW X (RX10, cX10_normal, 3, (some .int), false, true, fr + 8) 0 0 0 [(0, .ref 0), (1, .int 2)] [] M _
  refine a_iload_n dX10_normal_0 rfl rfl ?_
  refine a_callS (As := [.int 2]) (st := []) (bc := 0) (bs := 0) (mc := 0) (ms := 0) false dX10_normal_1 mw_X10_noSlot rfl (Or.inl ⟨rfl, ml_X10_151⟩) sm_X10_noSlot rfl (Nat.le_of_ble_eq_true rfl) (k_noSlot (fr := fr + 7) 2) (fun v M1 hq => ?_)
  obtain ⟨rfl, hM1⟩ := hq
  rw [hM1]
  clear hM1 M1
  refine a_st (st2 := [.int 0]) (by decide +kernel) ?_
  refine a_if_eq 10 dX10_normal_4 (by decide) (fun _ => ?_) (fun c => absurd (by decide) c)
  refine a_aload_n dX10_normal_10 rfl rfl ?_
  refine a_get (v := .ref 24) dX10_normal_11 fl_10_38 (cw_l h0 (by decide)) (cw_s h0 (by decide) rfl) (cw_g h0 rfl (by decide +kernel)) ?_
  refine a_iload_n dX10_normal_14 rfl rfl ?_
  refine a_aaload (r := 31) dX10_normal_15 (cw_l h0 (by decide)) (cw_s h0 (by decide) rfl) (by unfold vp_in; decide +kernel) (cw_r h0 (by decide +kernel)) ?_
  refine a_getN (v := .int 0) dX10_normal_16 fn_10_171 (cw_l h0 (by decide)) (cw_s h0 (by decide) rfl) (cw_gi h0 rfl (by decide) (by first | decide +kernel | rfl)) ?_
  refine a_if_ne 25 dX10_normal_19 (by decide) (fun c => absurd (by decide) c) (fun _ => ?_)
  refine a_bipush (v := (-5)) dX10_normal_22 (by decide) ?_
  exact a_iret dX10_normal_24 rfl ⟨by solve | rfl | (repeat (first | rw [if_pos (by assumption)] | rw [if_neg (by assumption)])) | simp_all, fm_of h0 (fun a k ha => by first | rfl | (repeat rw [up2_a _ _ _ _ (by omega)]))⟩
set_option maxHeartbeats 4000000 in
set_option maxRecDepth 100000 in
theorem p_normal_3 {X : Nat × (Nat → Int32)} {fr : Nat} {M : Mem}  (h0 : Cw 126 Lj134 fs42 gs31 M) : AM yX10_normal cX10_normal 3 (some .int) true (fr + 8) 0 0 X [.ref 0, .int 3] M (fun v M1 => v = some (.int (-5)) ∧ Fm M1) := by
  refine AM.of false (by decide +kernel) (by intro h; cases h) (Nat.le_of_ble_eq_true rfl) ?_
  show AW X (RX10, cX10_normal, 3, (some .int), false, true, fr + 8) 0 0 0 [(0, .ref 0), (1, .int 3)] [] M _
  refine a_iload_n dX10_normal_0 rfl rfl ?_
  refine a_callS (As := [.int 3]) (st := []) (bc := 0) (bs := 0) (mc := 0) (ms := 0) false dX10_normal_1 mw_X10_noSlot rfl (Or.inl ⟨rfl, ml_X10_151⟩) sm_X10_noSlot rfl (Nat.le_of_ble_eq_true rfl) (k_noSlot (fr := fr + 7) 3) (fun v M1 hq => ?_)
  obtain ⟨rfl, hM1⟩ := hq
  rw [hM1]
  clear hM1 M1
  refine a_st (st2 := [.int 0]) (by decide +kernel) ?_
  refine a_if_eq 10 dX10_normal_4 (by decide) (fun _ => ?_) (fun c => absurd (by decide) c)
  refine a_aload_n dX10_normal_10 rfl rfl ?_
  refine a_get (v := .ref 24) dX10_normal_11 fl_10_38 (cw_l h0 (by decide)) (cw_s h0 (by decide) rfl) (cw_g h0 rfl (by decide +kernel)) ?_
  refine a_iload_n dX10_normal_14 rfl rfl ?_
  refine a_aaload (r := 34) dX10_normal_15 (cw_l h0 (by decide)) (cw_s h0 (by decide) rfl) (by unfold vp_in; decide +kernel) (cw_r h0 (by decide +kernel)) ?_
  refine a_getN (v := .int 0) dX10_normal_16 fn_10_171 (cw_l h0 (by decide)) (cw_s h0 (by decide) rfl) (cw_gi h0 rfl (by decide) (by first | decide +kernel | rfl)) ?_
  refine a_if_ne 25 dX10_normal_19 (by decide) (fun c => absurd (by decide) c) (fun _ => ?_)
  refine a_bipush (v := (-5)) dX10_normal_22 (by decide) ?_
  exact a_iret dX10_normal_24 rfl ⟨by solve | rfl | (repeat (first | rw [if_pos (by assumption)] | rw [if_neg (by assumption)])) | simp_all, fm_of h0 (fun a k ha => by first | rfl | (repeat rw [up2_a _ _ _ _ (by omega)]))⟩
set_option maxHeartbeats 4000000 in
set_option maxRecDepth 100000 in
theorem z41_X10_numberLines {X : Nat × (Nat → Int32)} {fr : Nat} {M : Mem} (x : Int32) (hb_x : x < 0 ∨ 4 ≤ x) (h0 : Cw 126 Lj134 fs42 gs31 M) : AM yX10_numberLines cX10_numberLines 2 (some .int) true (fr + 7) 0 0 X [.ref 0, .int x] M (fun v M1 => v = some (.int (-2)) ∧ Cw 126 Lj134 fs42 gs31 M1) := by
  refine AM.of false (by decide +kernel) (by intro h; cases h) (Nat.le_of_ble_eq_true rfl) ?_
  show AW X (RX10, cX10_numberLines, 2, (some .int), false, true, fr + 7) 0 0 0 [(0, .ref 0), (1, .int x)] [] M _
  refine a_iload_n dX10_numberLines_0 rfl rfl ?_
  refine a_callS (As := [.int x]) (st := []) (bc := 0) (bs := 0) (mc := 0) (ms := 0) false dX10_numberLines_1 mw_X10_noSlot rfl (Or.inl ⟨rfl, ml_X10_151⟩) sm_X10_noSlot rfl (Nat.le_of_ble_eq_true rfl) (k_noSlot (fr := fr + 6) x) (fun v M1 hq => ?_)
  obtain ⟨rfl, hM1⟩ := hq
  rw [hM1]
  clear hM1 M1
  refine a_st (st2 := [.int 1]) (by rw [if_pos hb_x]; rfl) ?_
  refine a_if_eq 10 dX10_numberLines_4 (by decide) (fun c => absurd c (by decide)) (fun _ => ?_)
  refine a_bipush (v := (-2)) dX10_numberLines_7 (by decide) ?_
  exact a_iret dX10_numberLines_9 rfl ⟨rfl, h0⟩
set_option maxHeartbeats 4000000 in
set_option maxRecDepth 100000 in
theorem p_lines_b {X : Nat × (Nat → Int32)} {fr : Nat} {M : Mem} (x : Int32) (hb_x : x < 0 ∨ 4 ≤ x) (h0 : Cw 126 Lj134 fs42 gs31 M) : AM yX10_lines cX10_lines 3 (some .int) true (fr + 8) 0 0 X [.ref 0, .int x] M (fun v M1 => v = some (.int (-2)) ∧ Fm M1) := by
  refine AM.of false (by decide +kernel) (by intro h; cases h) (Nat.le_of_ble_eq_true rfl) ?_
  show AW X (RX10, cX10_lines, 3, (some .int), false, true, fr + 8) 0 0 0 [(0, .ref 0), (1, .int x)] [] M _
  refine a_aload_n dX10_lines_0 rfl rfl ?_
  refine a_iload_n dX10_lines_1 rfl rfl ?_
  refine a_callV (As := [.int x]) (st := []) (a := 0) (ci := 10) (bc := 0) (bs := 0) (mc := 0) (ms := 0) false dX10_lines_2 mw_X10_numberLines rfl (Or.inl ⟨rfl, ml_X10_284⟩) im_X10_numberLines se_X10_numberLines (by decide) (cw_l h0 (by decide)) (cw_s h0 (by decide) rfl) rfl (Nat.le_of_ble_eq_true rfl) (z41_X10_numberLines (fr := fr) x hb_x h0) (fun v M1 hq => ?_)
  obtain ⟨rfl, h1⟩ := hq
  show AW X _ 0 0 5 _ [.int (-2)] _ _
  refine a_istore_n dX10_lines_5 rfl (Nat.le_of_ble_eq_true rfl) (lv2 := [(2, .int (-2)), (0, .ref 0), (1, .int x)]) rfl ?_
  refine a_iload_n dX10_lines_6 rfl rfl ?_
  refine a_if_eq 14 dX10_lines_7 (by decide) (fun c => absurd c (by decide)) (fun _ => ?_)
  refine a_iload_n dX10_lines_10 rfl rfl ?_
  refine a_goto 21 dX10_lines_11 (by decide) ?_
  exact a_iret dX10_lines_21 rfl ⟨by first | rfl | decide +kernel | simp [*], fm_of h1 (fun a k ha => by first | rfl | (repeat rw [up2_a _ _ _ _ (by omega)]))⟩
set_option maxHeartbeats 4000000 in
set_option maxRecDepth 100000 in
theorem z42_X10_numberLines {X : Nat × (Nat → Int32)} {fr : Nat} {M : Mem}  (h0 : Cw 126 Lj134 fs42 gs31 M) : AM yX10_numberLines cX10_numberLines 2 (some .int) true (fr + 7) 0 0 X [.ref 0, .int 0] M (fun v M1 => v = some (.int (-5)) ∧ Cw 126 Lj134 fs42 gs31 M1) := by
  refine AM.of false (by decide +kernel) (by intro h; cases h) (Nat.le_of_ble_eq_true rfl) ?_
  show AW X (RX10, cX10_numberLines, 2, (some .int), false, true, fr + 7) 0 0 0 [(0, .ref 0), (1, .int 0)] [] M _
  refine a_iload_n dX10_numberLines_0 rfl rfl ?_
  refine a_callS (As := [.int 0]) (st := []) (bc := 0) (bs := 0) (mc := 0) (ms := 0) false dX10_numberLines_1 mw_X10_noSlot rfl (Or.inl ⟨rfl, ml_X10_151⟩) sm_X10_noSlot rfl (Nat.le_of_ble_eq_true rfl) (k_noSlot (fr := fr + 6) 0) (fun v M1 hq => ?_)
  obtain ⟨rfl, hM1⟩ := hq
  rw [hM1]
  clear hM1 M1
  refine a_st (st2 := [.int 0]) (by decide +kernel) ?_
  refine a_if_eq 10 dX10_numberLines_4 (by decide) (fun _ => ?_) (fun c => absurd (by decide) c)
  refine a_aload_n dX10_numberLines_10 rfl rfl ?_
  refine a_get (v := .ref 24) dX10_numberLines_11 fl_10_38 (cw_l h0 (by decide)) (cw_s h0 (by decide) rfl) (cw_g h0 rfl (by decide +kernel)) ?_
  refine a_iload_n dX10_numberLines_14 rfl rfl ?_
  refine a_aaload (r := 25) dX10_numberLines_15 (cw_l h0 (by decide)) (cw_s h0 (by decide) rfl) (by unfold vp_in; decide +kernel) (cw_r h0 (by decide +kernel)) ?_
  refine a_getN (v := .int 0) dX10_numberLines_16 fn_10_171 (cw_l h0 (by decide)) (cw_s h0 (by decide) rfl) (cw_gi h0 rfl (by decide) (by first | decide +kernel | rfl)) ?_
  refine a_if_ne 25 dX10_numberLines_19 (by decide) (fun c => absurd (by decide) c) (fun _ => ?_)
  refine a_bipush (v := (-5)) dX10_numberLines_22 (by decide) ?_
  exact a_iret dX10_numberLines_24 rfl ⟨rfl, h0⟩
set_option maxHeartbeats 4000000 in
set_option maxRecDepth 100000 in
theorem p_lines_0 {X : Nat × (Nat → Int32)} {fr : Nat} {M : Mem}  (h0 : Cw 126 Lj134 fs42 gs31 M) : AM yX10_lines cX10_lines 3 (some .int) true (fr + 8) 0 0 X [.ref 0, .int 0] M (fun v M1 => v = some (.int (-5)) ∧ Fm M1) := by
  refine AM.of false (by decide +kernel) (by intro h; cases h) (Nat.le_of_ble_eq_true rfl) ?_
  show AW X (RX10, cX10_lines, 3, (some .int), false, true, fr + 8) 0 0 0 [(0, .ref 0), (1, .int 0)] [] M _
  refine a_aload_n dX10_lines_0 rfl rfl ?_
  refine a_iload_n dX10_lines_1 rfl rfl ?_
  refine a_callV (As := [.int 0]) (st := []) (a := 0) (ci := 10) (bc := 0) (bs := 0) (mc := 0) (ms := 0) false dX10_lines_2 mw_X10_numberLines rfl (Or.inl ⟨rfl, ml_X10_284⟩) im_X10_numberLines se_X10_numberLines (by decide) (cw_l h0 (by decide)) (cw_s h0 (by decide) rfl) rfl (Nat.le_of_ble_eq_true rfl) (z42_X10_numberLines (fr := fr)  h0) (fun v M1 hq => ?_)
  obtain ⟨rfl, h1⟩ := hq
  show AW X _ 0 0 5 _ [.int (-5)] _ _
  refine a_istore_n dX10_lines_5 rfl (Nat.le_of_ble_eq_true rfl) (lv2 := [(2, .int (-5)), (0, .ref 0), (1, .int 0)]) rfl ?_
  refine a_iload_n dX10_lines_6 rfl rfl ?_
  refine a_if_eq 14 dX10_lines_7 (by decide) (fun c => absurd c (by decide)) (fun _ => ?_)
  refine a_iload_n dX10_lines_10 rfl rfl ?_
  refine a_goto 21 dX10_lines_11 (by decide) ?_
  exact a_iret dX10_lines_21 rfl ⟨by solve | rfl | (repeat (first | rw [if_pos (by assumption)] | rw [if_neg (by assumption)])) | simp_all, fm_of h1 (fun a k ha => by first | rfl | (repeat rw [up2_a _ _ _ _ (by omega)]))⟩
set_option maxHeartbeats 4000000 in
set_option maxRecDepth 100000 in
theorem z43_X10_numberLines {X : Nat × (Nat → Int32)} {fr : Nat} {M : Mem}  (h0 : Cw 126 Lj134 fs42 gs31 M) : AM yX10_numberLines cX10_numberLines 2 (some .int) true (fr + 7) 0 0 X [.ref 0, .int 1] M (fun v M1 => v = some (.int (-5)) ∧ Cw 126 Lj134 fs42 gs31 M1) := by
  refine AM.of false (by decide +kernel) (by intro h; cases h) (Nat.le_of_ble_eq_true rfl) ?_
  show AW X (RX10, cX10_numberLines, 2, (some .int), false, true, fr + 7) 0 0 0 [(0, .ref 0), (1, .int 1)] [] M _
  refine a_iload_n dX10_numberLines_0 rfl rfl ?_
  refine a_callS (As := [.int 1]) (st := []) (bc := 0) (bs := 0) (mc := 0) (ms := 0) false dX10_numberLines_1 mw_X10_noSlot rfl (Or.inl ⟨rfl, ml_X10_151⟩) sm_X10_noSlot rfl (Nat.le_of_ble_eq_true rfl) (k_noSlot (fr := fr + 6) 1) (fun v M1 hq => ?_)
  obtain ⟨rfl, hM1⟩ := hq
  rw [hM1]
  clear hM1 M1
  refine a_st (st2 := [.int 0]) (by decide +kernel) ?_
  refine a_if_eq 10 dX10_numberLines_4 (by decide) (fun _ => ?_) (fun c => absurd (by decide) c)
  refine a_aload_n dX10_numberLines_10 rfl rfl ?_
  refine a_get (v := .ref 24) dX10_numberLines_11 fl_10_38 (cw_l h0 (by decide)) (cw_s h0 (by decide) rfl) (cw_g h0 rfl (by decide +kernel)) ?_
  refine a_iload_n dX10_numberLines_14 rfl rfl ?_
  refine a_aaload (r := 28) dX10_numberLines_15 (cw_l h0 (by decide)) (cw_s h0 (by decide) rfl) (by unfold vp_in; decide +kernel) (cw_r h0 (by decide +kernel)) ?_
  refine a_getN (v := .int 0) dX10_numberLines_16 fn_10_171 (cw_l h0 (by decide)) (cw_s h0 (by decide) rfl) (cw_gi h0 rfl (by decide) (by first | decide +kernel | rfl)) ?_
  refine a_if_ne 25 dX10_numberLines_19 (by decide) (fun c => absurd (by decide) c) (fun _ => ?_)
  refine a_bipush (v := (-5)) dX10_numberLines_22 (by decide) ?_
  exact a_iret dX10_numberLines_24 rfl ⟨rfl, h0⟩
set_option maxHeartbeats 4000000 in
set_option maxRecDepth 100000 in
theorem p_lines_1 {X : Nat × (Nat → Int32)} {fr : Nat} {M : Mem}  (h0 : Cw 126 Lj134 fs42 gs31 M) : AM yX10_lines cX10_lines 3 (some .int) true (fr + 8) 0 0 X [.ref 0, .int 1] M (fun v M1 => v = some (.int (-5)) ∧ Fm M1) := by
  refine AM.of false (by decide +kernel) (by intro h; cases h) (Nat.le_of_ble_eq_true rfl) ?_
  show AW X (RX10, cX10_lines, 3, (some .int), false, true, fr + 8) 0 0 0 [(0, .ref 0), (1, .int 1)] [] M _
  refine a_aload_n dX10_lines_0 rfl rfl ?_
  refine a_iload_n dX10_lines_1 rfl rfl ?_
  refine a_callV (As := [.int 1]) (st := []) (a := 0) (ci := 10) (bc := 0) (bs := 0) (mc := 0) (ms := 0) false dX10_lines_2 mw_X10_numberLines rfl (Or.inl ⟨rfl, ml_X10_284⟩) im_X10_numberLines se_X10_numberLines (by decide) (cw_l h0 (by decide)) (cw_s h0 (by decide) rfl) rfl (Nat.le_of_ble_eq_true rfl) (z43_X10_numberLines (fr := fr)  h0) (fun v M1 hq => ?_)
  obtain ⟨rfl, h1⟩ := hq
  show AW X _ 0 0 5 _ [.int (-5)] _ _
  refine a_istore_n dX10_lines_5 rfl (Nat.le_of_ble_eq_true rfl) (lv2 := [(2, .int (-5)), (0, .ref 0), (1, .int 1)]) rfl ?_
  refine a_iload_n dX10_lines_6 rfl rfl ?_
  refine a_if_eq 14 dX10_lines_7 (by decide) (fun c => absurd c (by decide)) (fun _ => ?_)
  refine a_iload_n dX10_lines_10 rfl rfl ?_
  refine a_goto 21 dX10_lines_11 (by decide) ?_
  exact a_iret dX10_lines_21 rfl ⟨by solve | rfl | (repeat (first | rw [if_pos (by assumption)] | rw [if_neg (by assumption)])) | simp_all, fm_of h1 (fun a k ha => by first | rfl | (repeat rw [up2_a _ _ _ _ (by omega)]))⟩
set_option maxHeartbeats 4000000 in
set_option maxRecDepth 100000 in
theorem z44_X10_numberLines {X : Nat × (Nat → Int32)} {fr : Nat} {M : Mem}  (h0 : Cw 126 Lj134 fs42 gs31 M) : AM yX10_numberLines cX10_numberLines 2 (some .int) true (fr + 7) 0 0 X [.ref 0, .int 2] M (fun v M1 => v = some (.int (-5)) ∧ Cw 126 Lj134 fs42 gs31 M1) := by
  refine AM.of false (by decide +kernel) (by intro h; cases h) (Nat.le_of_ble_eq_true rfl) ?_
  show AW X (RX10, cX10_numberLines, 2, (some .int), false, true, fr + 7) 0 0 0 [(0, .ref 0), (1, .int 2)] [] M _
  refine a_iload_n dX10_numberLines_0 rfl rfl ?_
  refine a_callS (As := [.int 2]) (st := []) (bc := 0) (bs := 0) (mc := 0) (ms := 0) false dX10_numberLines_1 mw_X10_noSlot rfl (Or.inl ⟨rfl, ml_X10_151⟩) sm_X10_noSlot rfl (Nat.le_of_ble_eq_true rfl) (k_noSlot (fr := fr + 6) 2) (fun v M1 hq => ?_)
  obtain ⟨rfl, hM1⟩ := hq
  rw [hM1]
  clear hM1 M1
  refine a_st (st2 := [.int 0]) (by decide +kernel) ?_
  refine a_if_eq 10 dX10_numberLines_4 (by decide) (fun _ => ?_) (fun c => absurd (by decide) c)
  refine a_aload_n dX10_numberLines_10 rfl rfl ?_
  refine a_get (v := .ref 24) dX10_numberLines_11 fl_10_38 (cw_l h0 (by decide)) (cw_s h0 (by decide) rfl) (cw_g h0 rfl (by decide +kernel)) ?_
  refine a_iload_n dX10_numberLines_14 rfl rfl ?_
  refine a_aaload (r := 31) dX10_numberLines_15 (cw_l h0 (by decide)) (cw_s h0 (by decide) rfl) (by unfold vp_in; decide +kernel) (cw_r h0 (by decide +kernel)) ?_
  refine a_getN (v := .int 0) dX10_numberLines_16 fn_10_171 (cw_l h0 (by decide)) (cw_s h0 (by decide) rfl) (cw_gi h0 rfl (by decide) (by first | decide +kernel | rfl)) ?_
  refine a_if_ne 25 dX10_numberLines_19 (by decide) (fun c => absurd (by decide) c) (fun _ => ?_)
  refine a_bipush (v := (-5)) dX10_numberLines_22 (by decide) ?_
  exact a_iret dX10_numberLines_24 rfl ⟨rfl, h0⟩
set_option maxHeartbeats 4000000 in
set_option maxRecDepth 100000 in
theorem p_lines_2 {X : Nat × (Nat → Int32)} {fr : Nat} {M : Mem}  (h0 : Cw 126 Lj134 fs42 gs31 M) : AM yX10_lines cX10_lines 3 (some .int) true (fr + 8) 0 0 X [.ref 0, .int 2] M (fun v M1 => v = some (.int (-5)) ∧ Fm M1) := by
  refine AM.of false (by decide +kernel) (by intro h; cases h) (Nat.le_of_ble_eq_true rfl) ?_
  show AW X (RX10, cX10_lines, 3, (some .int), false, true, fr + 8) 0 0 0 [(0, .ref 0), (1, .int 2)] [] M _
  refine a_aload_n dX10_lines_0 rfl rfl ?_
  refine a_iload_n dX10_lines_1 rfl rfl ?_
  refine a_callV (As := [.int 2]) (st := []) (a := 0) (ci := 10) (bc := 0) (bs := 0) (mc := 0) (ms := 0) false dX10_lines_2 mw_X10_numberLines rfl (Or.inl ⟨rfl, ml_X10_284⟩) im_X10_numberLines se_X10_numberLines (by decide) (cw_l h0 (by decide)) (cw_s h0 (by decide) rfl) rfl (Nat.le_of_ble_eq_true rfl) (z44_X10_numberLines (fr := fr)  h0) (fun v M1 hq => ?_)
  obtain ⟨rfl, h1⟩ := hq
  show AW X _ 0 0 5 _ [.int (-5)] _ _
  refine a_istore_n dX10_lines_5 rfl (Nat.le_of_ble_eq_true rfl) (lv2 := [(2, .int (-5)), (0, .ref 0), (1, .int 2)]) rfl ?_
  refine a_iload_n dX10_lines_6 rfl rfl ?_
  refine a_if_eq 14 dX10_lines_7 (by decide) (fun c => absurd c (by decide)) (fun _ => ?_)
  refine a_iload_n dX10_lines_10 rfl rfl ?_
  refine a_goto 21 dX10_lines_11 (by decide) ?_
  exact a_iret dX10_lines_21 rfl ⟨by solve | rfl | (repeat (first | rw [if_pos (by assumption)] | rw [if_neg (by assumption)])) | simp_all, fm_of h1 (fun a k ha => by first | rfl | (repeat rw [up2_a _ _ _ _ (by omega)]))⟩
set_option maxHeartbeats 4000000 in
set_option maxRecDepth 100000 in
theorem z45_X10_numberLines {X : Nat × (Nat → Int32)} {fr : Nat} {M : Mem}  (h0 : Cw 126 Lj134 fs42 gs31 M) : AM yX10_numberLines cX10_numberLines 2 (some .int) true (fr + 7) 0 0 X [.ref 0, .int 3] M (fun v M1 => v = some (.int (-5)) ∧ Cw 126 Lj134 fs42 gs31 M1) := by
  refine AM.of false (by decide +kernel) (by intro h; cases h) (Nat.le_of_ble_eq_true rfl) ?_
  show AW X (RX10, cX10_numberLines, 2, (some .int), false, true, fr + 7) 0 0 0 [(0, .ref 0), (1, .int 3)] [] M _
  refine a_iload_n dX10_numberLines_0 rfl rfl ?_
  refine a_callS (As := [.int 3]) (st := []) (bc := 0) (bs := 0) (mc := 0) (ms := 0) false dX10_numberLines_1 mw_X10_noSlot rfl (Or.inl ⟨rfl, ml_X10_151⟩) sm_X10_noSlot rfl (Nat.le_of_ble_eq_true rfl) (k_noSlot (fr := fr + 6) 3) (fun v M1 hq => ?_)
  obtain ⟨rfl, hM1⟩ := hq
  rw [hM1]
  clear hM1 M1
  refine a_st (st2 := [.int 0]) (by decide +kernel) ?_
  refine a_if_eq 10 dX10_numberLines_4 (by decide) (fun _ => ?_) (fun c => absurd (by decide) c)
  refine a_aload_n dX10_numberLines_10 rfl rfl ?_
  refine a_get (v := .ref 24) dX10_numberLines_11 fl_10_38 (cw_l h0 (by decide)) (cw_s h0 (by decide) rfl) (cw_g h0 rfl (by decide +kernel)) ?_
  refine a_iload_n dX10_numberLines_14 rfl rfl ?_
  refine a_aaload (r := 34) dX10_numberLines_15 (cw_l h0 (by decide)) (cw_s h0 (by decide) rfl) (by unfold vp_in; decide +kernel) (cw_r h0 (by decide +kernel)) ?_
  refine a_getN (v := .int 0) dX10_numberLines_16 fn_10_171 (cw_l h0 (by decide)) (cw_s h0 (by decide) rfl) (cw_gi h0 rfl (by decide) (by first | decide +kernel | rfl)) ?_
  refine a_if_ne 25 dX10_numberLines_19 (by decide) (fun c => absurd (by decide) c) (fun _ => ?_)
  refine a_bipush (v := (-5)) dX10_numberLines_22 (by decide) ?_
  exact a_iret dX10_numberLines_24 rfl ⟨rfl, h0⟩
set_option maxHeartbeats 4000000 in
set_option maxRecDepth 100000 in
theorem p_lines_3 {X : Nat × (Nat → Int32)} {fr : Nat} {M : Mem}  (h0 : Cw 126 Lj134 fs42 gs31 M) : AM yX10_lines cX10_lines 3 (some .int) true (fr + 8) 0 0 X [.ref 0, .int 3] M (fun v M1 => v = some (.int (-5)) ∧ Fm M1) := by
  refine AM.of false (by decide +kernel) (by intro h; cases h) (Nat.le_of_ble_eq_true rfl) ?_
  show AW X (RX10, cX10_lines, 3, (some .int), false, true, fr + 8) 0 0 0 [(0, .ref 0), (1, .int 3)] [] M _
  refine a_aload_n dX10_lines_0 rfl rfl ?_
  refine a_iload_n dX10_lines_1 rfl rfl ?_
  refine a_callV (As := [.int 3]) (st := []) (a := 0) (ci := 10) (bc := 0) (bs := 0) (mc := 0) (ms := 0) false dX10_lines_2 mw_X10_numberLines rfl (Or.inl ⟨rfl, ml_X10_284⟩) im_X10_numberLines se_X10_numberLines (by decide) (cw_l h0 (by decide)) (cw_s h0 (by decide) rfl) rfl (Nat.le_of_ble_eq_true rfl) (z45_X10_numberLines (fr := fr)  h0) (fun v M1 hq => ?_)
  obtain ⟨rfl, h1⟩ := hq
  show AW X _ 0 0 5 _ [.int (-5)] _ _
  refine a_istore_n dX10_lines_5 rfl (Nat.le_of_ble_eq_true rfl) (lv2 := [(2, .int (-5)), (0, .ref 0), (1, .int 3)]) rfl ?_
  refine a_iload_n dX10_lines_6 rfl rfl ?_
  refine a_if_eq 14 dX10_lines_7 (by decide) (fun c => absurd c (by decide)) (fun _ => ?_)
  refine a_iload_n dX10_lines_10 rfl rfl ?_
  refine a_goto 21 dX10_lines_11 (by decide) ?_
  exact a_iret dX10_lines_21 rfl ⟨by solve | rfl | (repeat (first | rw [if_pos (by assumption)] | rw [if_neg (by assumption)])) | simp_all, fm_of h1 (fun a k ha => by first | rfl | (repeat rw [up2_a _ _ _ _ (by omega)]))⟩
set_option maxHeartbeats 4000000 in
set_option maxRecDepth 100000 in
theorem p_side_b {X : Nat × (Nat → Int32)} {fr : Nat} {M : Mem} (x : Int32) (hb_x : x < 0 ∨ 4 ≤ x) (h0 : Cw 126 Lj134 fs42 gs31 M) : AM yX10_side cX10_side 3 (some .int) true (fr + 8) 0 0 X [.ref 0, .int x] M (fun v M1 => v = some (.int (-2)) ∧ Fm M1) := by
  refine AM.of false (by decide +kernel) (by intro h; cases h) (Nat.le_of_ble_eq_true rfl) ?_
  show AW X (RX10, cX10_side, 3, (some .int), false, true, fr + 8) 0 0 0 [(0, .ref 0), (1, .int x)] [] M _
  refine a_iload_n dX10_side_0 rfl rfl ?_
  refine a_callS (As := [.int x]) (st := []) (bc := 0) (bs := 0) (mc := 0) (ms := 0) false dX10_side_1 mw_X10_noSlot rfl (Or.inl ⟨rfl, ml_X10_151⟩) sm_X10_noSlot rfl (Nat.le_of_ble_eq_true rfl) (k_noSlot (fr := fr + 7) x) (fun v M1 hq => ?_)
  obtain ⟨rfl, hM1⟩ := hq
  rw [hM1]
  clear hM1 M1
  refine a_st (st2 := [.int 1]) (by rw [if_pos hb_x]; rfl) ?_
  refine a_if_eq 10 dX10_side_4 (by decide) (fun c => absurd c (by decide)) (fun _ => ?_)
  refine a_bipush (v := (-2)) dX10_side_7 (by decide) ?_
  exact a_iret dX10_side_9 rfl ⟨by first | rfl | decide +kernel | simp [*], fm_of h0 (fun a k ha => by first | rfl | (repeat rw [up2_a _ _ _ _ (by omega)]))⟩
set_option maxHeartbeats 4000000 in
set_option maxRecDepth 100000 in
theorem p_side_0 {X : Nat × (Nat → Int32)} {fr : Nat} {M : Mem}  (h0 : Cw 126 Lj134 fs42 gs31 M) : AM yX10_side cX10_side 3 (some .int) true (fr + 8) 0 0 X [.ref 0, .int 0] M (fun v M1 => v = some (.int (-5)) ∧ Fm M1) := by
  refine AM.of false (by decide +kernel) (by intro h; cases h) (Nat.le_of_ble_eq_true rfl) ?_
  show AW X (RX10, cX10_side, 3, (some .int), false, true, fr + 8) 0 0 0 [(0, .ref 0), (1, .int 0)] [] M _
  refine a_iload_n dX10_side_0 rfl rfl ?_
  refine a_callS (As := [.int 0]) (st := []) (bc := 0) (bs := 0) (mc := 0) (ms := 0) false dX10_side_1 mw_X10_noSlot rfl (Or.inl ⟨rfl, ml_X10_151⟩) sm_X10_noSlot rfl (Nat.le_of_ble_eq_true rfl) (k_noSlot (fr := fr + 7) 0) (fun v M1 hq => ?_)
  obtain ⟨rfl, hM1⟩ := hq
  rw [hM1]
  clear hM1 M1
  refine a_st (st2 := [.int 0]) (by decide +kernel) ?_
  refine a_if_eq 10 dX10_side_4 (by decide) (fun _ => ?_) (fun c => absurd (by decide) c)
  refine a_aload_n dX10_side_10 rfl rfl ?_
  refine a_get (v := .ref 24) dX10_side_11 fl_10_38 (cw_l h0 (by decide)) (cw_s h0 (by decide) rfl) (cw_g h0 rfl (by decide +kernel)) ?_
  refine a_iload_n dX10_side_14 rfl rfl ?_
  refine a_aaload (r := 25) dX10_side_15 (cw_l h0 (by decide)) (cw_s h0 (by decide) rfl) (by unfold vp_in; decide +kernel) (cw_r h0 (by decide +kernel)) ?_
  refine a_getN (v := .int 0) dX10_side_16 fn_10_171 (cw_l h0 (by decide)) (cw_s h0 (by decide) rfl) (cw_gi h0 rfl (by decide) (by first | decide +kernel | rfl)) ?_
  refine a_if_eq 39 dX10_side_19 (by decide) (fun _ => ?_) (fun c => absurd (by decide) c)
  refine a_bipush (v := (-5)) dX10_side_39 (by decide) ?_
  exact a_iret dX10_side_41 rfl ⟨by solve | rfl | (repeat (first | rw [if_pos (by assumption)] | rw [if_neg (by assumption)])) | simp_all, fm_of h0 (fun a k ha => by first | rfl | (repeat rw [up2_a _ _ _ _ (by omega)]))⟩
set_option maxHeartbeats 4000000 in
set_option maxRecDepth 100000 in
theorem p_side_1 {X : Nat × (Nat → Int32)} {fr : Nat} {M : Mem}  (h0 : Cw 126 Lj134 fs42 gs31 M) : AM yX10_side cX10_side 3 (some .int) true (fr + 8) 0 0 X [.ref 0, .int 1] M (fun v M1 => v = some (.int (-5)) ∧ Fm M1) := by
  refine AM.of false (by decide +kernel) (by intro h; cases h) (Nat.le_of_ble_eq_true rfl) ?_
  show AW X (RX10, cX10_side, 3, (some .int), false, true, fr + 8) 0 0 0 [(0, .ref 0), (1, .int 1)] [] M _
  refine a_iload_n dX10_side_0 rfl rfl ?_
  refine a_callS (As := [.int 1]) (st := []) (bc := 0) (bs := 0) (mc := 0) (ms := 0) false dX10_side_1 mw_X10_noSlot rfl (Or.inl ⟨rfl, ml_X10_151⟩) sm_X10_noSlot rfl (Nat.le_of_ble_eq_true rfl) (k_noSlot (fr := fr + 7) 1) (fun v M1 hq => ?_)
  obtain ⟨rfl, hM1⟩ := hq
  rw [hM1]
  clear hM1 M1
  refine a_st (st2 := [.int 0]) (by decide +kernel) ?_
  refine a_if_eq 10 dX10_side_4 (by decide) (fun _ => ?_) (fun c => absurd (by decide) c)
  refine a_aload_n dX10_side_10 rfl rfl ?_
  refine a_get (v := .ref 24) dX10_side_11 fl_10_38 (cw_l h0 (by decide)) (cw_s h0 (by decide) rfl) (cw_g h0 rfl (by decide +kernel)) ?_
  refine a_iload_n dX10_side_14 rfl rfl ?_
  refine a_aaload (r := 28) dX10_side_15 (cw_l h0 (by decide)) (cw_s h0 (by decide) rfl) (by unfold vp_in; decide +kernel) (cw_r h0 (by decide +kernel)) ?_
  refine a_getN (v := .int 0) dX10_side_16 fn_10_171 (cw_l h0 (by decide)) (cw_s h0 (by decide) rfl) (cw_gi h0 rfl (by decide) (by first | decide +kernel | rfl)) ?_
  refine a_if_eq 39 dX10_side_19 (by decide) (fun _ => ?_) (fun c => absurd (by decide) c)
  refine a_bipush (v := (-5)) dX10_side_39 (by decide) ?_
  exact a_iret dX10_side_41 rfl ⟨by solve | rfl | (repeat (first | rw [if_pos (by assumption)] | rw [if_neg (by assumption)])) | simp_all, fm_of h0 (fun a k ha => by first | rfl | (repeat rw [up2_a _ _ _ _ (by omega)]))⟩
set_option maxHeartbeats 4000000 in
set_option maxRecDepth 100000 in
theorem p_side_2 {X : Nat × (Nat → Int32)} {fr : Nat} {M : Mem}  (h0 : Cw 126 Lj134 fs42 gs31 M) : AM yX10_side cX10_side 3 (some .int) true (fr + 8) 0 0 X [.ref 0, .int 2] M (fun v M1 => v = some (.int (-5)) ∧ Fm M1) := by
  refine AM.of false (by decide +kernel) (by intro h; cases h) (Nat.le_of_ble_eq_true rfl) ?_
  show AW X (RX10, cX10_side, 3, (some .int), false, true, fr + 8) 0 0 0 [(0, .ref 0), (1, .int 2)] [] M _
  refine a_iload_n dX10_side_0 rfl rfl ?_
  refine a_callS (As := [.int 2]) (st := []) (bc := 0) (bs := 0) (mc := 0) (ms := 0) false dX10_side_1 mw_X10_noSlot rfl (Or.inl ⟨rfl, ml_X10_151⟩) sm_X10_noSlot rfl (Nat.le_of_ble_eq_true rfl) (k_noSlot (fr := fr + 7) 2) (fun v M1 hq => ?_)
  obtain ⟨rfl, hM1⟩ := hq
  rw [hM1]
  clear hM1 M1
  refine a_st (st2 := [.int 0]) (by decide +kernel) ?_
  refine a_if_eq 10 dX10_side_4 (by decide) (fun _ => ?_) (fun c => absurd (by decide) c)
  refine a_aload_n dX10_side_10 rfl rfl ?_
  refine a_get (v := .ref 24) dX10_side_11 fl_10_38 (cw_l h0 (by decide)) (cw_s h0 (by decide) rfl) (cw_g h0 rfl (by decide +kernel)) ?_
  refine a_iload_n dX10_side_14 rfl rfl ?_
  refine a_aaload (r := 31) dX10_side_15 (cw_l h0 (by decide)) (cw_s h0 (by decide) rfl) (by unfold vp_in; decide +kernel) (cw_r h0 (by decide +kernel)) ?_
  refine a_getN (v := .int 0) dX10_side_16 fn_10_171 (cw_l h0 (by decide)) (cw_s h0 (by decide) rfl) (cw_gi h0 rfl (by decide) (by first | decide +kernel | rfl)) ?_
  refine a_if_eq 39 dX10_side_19 (by decide) (fun _ => ?_) (fun c => absurd (by decide) c)
  refine a_bipush (v := (-5)) dX10_side_39 (by decide) ?_
  exact a_iret dX10_side_41 rfl ⟨by solve | rfl | (repeat (first | rw [if_pos (by assumption)] | rw [if_neg (by assumption)])) | simp_all, fm_of h0 (fun a k ha => by first | rfl | (repeat rw [up2_a _ _ _ _ (by omega)]))⟩
set_option maxHeartbeats 4000000 in
set_option maxRecDepth 100000 in
theorem p_side_3 {X : Nat × (Nat → Int32)} {fr : Nat} {M : Mem}  (h0 : Cw 126 Lj134 fs42 gs31 M) : AM yX10_side cX10_side 3 (some .int) true (fr + 8) 0 0 X [.ref 0, .int 3] M (fun v M1 => v = some (.int (-5)) ∧ Fm M1) := by
  refine AM.of false (by decide +kernel) (by intro h; cases h) (Nat.le_of_ble_eq_true rfl) ?_
  show AW X (RX10, cX10_side, 3, (some .int), false, true, fr + 8) 0 0 0 [(0, .ref 0), (1, .int 3)] [] M _
  refine a_iload_n dX10_side_0 rfl rfl ?_
  refine a_callS (As := [.int 3]) (st := []) (bc := 0) (bs := 0) (mc := 0) (ms := 0) false dX10_side_1 mw_X10_noSlot rfl (Or.inl ⟨rfl, ml_X10_151⟩) sm_X10_noSlot rfl (Nat.le_of_ble_eq_true rfl) (k_noSlot (fr := fr + 7) 3) (fun v M1 hq => ?_)
  obtain ⟨rfl, hM1⟩ := hq
  rw [hM1]
  clear hM1 M1
  refine a_st (st2 := [.int 0]) (by decide +kernel) ?_
  refine a_if_eq 10 dX10_side_4 (by decide) (fun _ => ?_) (fun c => absurd (by decide) c)
  refine a_aload_n dX10_side_10 rfl rfl ?_
  refine a_get (v := .ref 24) dX10_side_11 fl_10_38 (cw_l h0 (by decide)) (cw_s h0 (by decide) rfl) (cw_g h0 rfl (by decide +kernel)) ?_
  refine a_iload_n dX10_side_14 rfl rfl ?_
  refine a_aaload (r := 34) dX10_side_15 (cw_l h0 (by decide)) (cw_s h0 (by decide) rfl) (by unfold vp_in; decide +kernel) (cw_r h0 (by decide +kernel)) ?_
  refine a_getN (v := .int 0) dX10_side_16 fn_10_171 (cw_l h0 (by decide)) (cw_s h0 (by decide) rfl) (cw_gi h0 rfl (by decide) (by first | decide +kernel | rfl)) ?_
  refine a_if_eq 39 dX10_side_19 (by decide) (fun _ => ?_) (fun c => absurd (by decide) c)
  refine a_bipush (v := (-5)) dX10_side_39 (by decide) ?_
  exact a_iret dX10_side_41 rfl ⟨by solve | rfl | (repeat (first | rw [if_pos (by assumption)] | rw [if_neg (by assumption)])) | simp_all, fm_of h0 (fun a k ha => by first | rfl | (repeat rw [up2_a _ _ _ _ (by omega)]))⟩
set_option maxHeartbeats 4000000 in
set_option maxRecDepth 100000 in
theorem p_spell_b {X : Nat × (Nat → Int32)} {fr : Nat} {M : Mem} (x : Int32) (w : Int32) (i : Int32) (hb_x : x < 0 ∨ 4 ≤ x) (h0 : Cw 126 Lj134 fs42 gs31 M) : AM yX10_spell cX10_spell 4 (some .int) true (fr + 8) 0 0 X [.ref 0, .int x, .int w, .int i] M (fun v M1 => v = some (.int (-2)) ∧ Fm M1) := by
  refine AM.of false (by decide +kernel) (by intro h; cases h) (Nat.le_of_ble_eq_true rfl) ?_
  show AW X (RX10, cX10_spell, 4, (some .int), false, true, fr + 8) 0 0 0 [(0, .ref 0), (1, .int x), (2, .int w), (3, .int i)] [] M _
  refine a_iload_n dX10_spell_0 rfl rfl ?_
  refine a_callS (As := [.int x]) (st := []) (bc := 0) (bs := 0) (mc := 0) (ms := 0) false dX10_spell_1 mw_X10_noSlot rfl (Or.inl ⟨rfl, ml_X10_151⟩) sm_X10_noSlot rfl (Nat.le_of_ble_eq_true rfl) (k_noSlot (fr := fr + 7) x) (fun v M1 hq => ?_)
  obtain ⟨rfl, hM1⟩ := hq
  rw [hM1]
  clear hM1 M1
  refine a_st (st2 := [.int 1]) (by rw [if_pos hb_x]; rfl) ?_
  refine a_if_ne 16 dX10_spell_4 (by decide) (fun _ => ?_) (fun c => absurd c (by decide))
  refine a_bipush (v := (-2)) dX10_spell_16 (by decide) ?_
  exact a_iret dX10_spell_18 rfl ⟨by first | rfl | decide +kernel | simp [*], fm_of h0 (fun a k ha => by first | rfl | (repeat rw [up2_a _ _ _ _ (by omega)]))⟩
set_option maxHeartbeats 4000000 in
set_option maxRecDepth 100000 in
theorem p_spell_0 {X : Nat × (Nat → Int32)} {fr : Nat} {M : Mem} (w : Int32) (i : Int32) (h0 : Cw 126 Lj134 fs42 gs31 M) : AM yX10_spell cX10_spell 4 (some .int) true (fr + 8) 0 0 X [.ref 0, .int 0, .int w, .int i] M (fun v M1 => v = some (.int (if w < 0 then -2 else if w ≤ 2 then (if 0 ≤ i then -5 else -3) else -2)) ∧ Fm M1) := by
  refine AM.of false (by decide +kernel) (by intro h; cases h) (Nat.le_of_ble_eq_true rfl) ?_
  show AW X (RX10, cX10_spell, 4, (some .int), false, true, fr + 8) 0 0 0 [(0, .ref 0), (1, .int 0), (2, .int w), (3, .int i)] [] M _
  refine a_iload_n dX10_spell_0 rfl rfl ?_
  refine a_callS (As := [.int 0]) (st := []) (bc := 0) (bs := 0) (mc := 0) (ms := 0) false dX10_spell_1 mw_X10_noSlot rfl (Or.inl ⟨rfl, ml_X10_151⟩) sm_X10_noSlot rfl (Nat.le_of_ble_eq_true rfl) (k_noSlot (fr := fr + 7) 0) (fun v M1 hq => ?_)
  obtain ⟨rfl, hM1⟩ := hq
  rw [hM1]
  clear hM1 M1
  refine a_st (st2 := [.int 0]) (by decide +kernel) ?_
  refine a_if_ne 16 dX10_spell_4 (by decide) (fun c => absurd (by decide) c) (fun _ => ?_)
  refine a_iload_n dX10_spell_7 rfl rfl ?_
  refine a_if_lt 16 dX10_spell_8 (by decide) (fun c1 => ?_) (fun c1 => ?_)
  · refine a_bipush (v := (-2)) dX10_spell_16 (by decide) ?_
    exact a_iret dX10_spell_18 rfl ⟨by solve | rfl | (repeat (first | rw [if_pos (by assumption)] | rw [if_neg (by assumption)])) | simp_all, fm_of h0 (fun a k ha => by first | rfl | (repeat rw [up2_a _ _ _ _ (by omega)]))⟩
  · refine a_iload_n dX10_spell_11 rfl rfl ?_
    refine a_iconst (v := 2) dX10_spell_12 (by decide) ?_
    refine a_icmp_le 19 dX10_spell_13 (by decide) (fun c2 => ?_) (fun c2 => ?_)
    · refine a_iload_n dX10_spell_19 rfl rfl ?_
      refine a_if_ge 26 dX10_spell_20 (by decide) (fun c3 => ?_) (fun c3 => ?_)
      · refine a_aload_n dX10_spell_26 rfl rfl ?_
        refine a_get (v := .ref 24) dX10_spell_27 fl_10_38 (cw_l h0 (by decide)) (cw_s h0 (by decide) rfl) (cw_g h0 rfl (by decide +kernel)) ?_
        refine a_iload_n dX10_spell_30 rfl rfl ?_
        refine a_aaload (r := 25) dX10_spell_31 (cw_l h0 (by decide)) (cw_s h0 (by decide) rfl) (by unfold vp_in; decide +kernel) (cw_r h0 (by decide +kernel)) ?_
        refine a_getN (v := .int 0) dX10_spell_32 fn_10_171 (cw_l h0 (by decide)) (cw_s h0 (by decide) rfl) (cw_gi h0 rfl (by decide) (by first | decide +kernel | rfl)) ?_
        refine a_if_ne 41 dX10_spell_35 (by decide) (fun c => absurd (by decide) c) (fun _ => ?_)
        refine a_bipush (v := (-5)) dX10_spell_38 (by decide) ?_
        exact a_iret dX10_spell_40 rfl ⟨by solve | rfl | (repeat (first | rw [if_pos (by assumption)] | rw [if_neg (by assumption)])) | simp_all, fm_of h0 (fun a k ha => by first | rfl | (repeat rw [up2_a _ _ _ _ (by omega)]))⟩
      · refine a_bipush (v := (-3)) dX10_spell_23 (by decide) ?_
        exact a_iret dX10_spell_25 rfl ⟨by solve | rfl | (repeat (first | rw [if_pos (by assumption)] | rw [if_neg (by assumption)])) | simp_all, fm_of h0 (fun a k ha => by first | rfl | (repeat rw [up2_a _ _ _ _ (by omega)]))⟩
    · refine a_bipush (v := (-2)) dX10_spell_16 (by decide) ?_
      exact a_iret dX10_spell_18 rfl ⟨by solve | rfl | (repeat (first | rw [if_pos (by assumption)] | rw [if_neg (by assumption)])) | simp_all, fm_of h0 (fun a k ha => by first | rfl | (repeat rw [up2_a _ _ _ _ (by omega)]))⟩
set_option maxHeartbeats 4000000 in
set_option maxRecDepth 100000 in
theorem p_spell_1 {X : Nat × (Nat → Int32)} {fr : Nat} {M : Mem} (w : Int32) (i : Int32) (h0 : Cw 126 Lj134 fs42 gs31 M) : AM yX10_spell cX10_spell 4 (some .int) true (fr + 8) 0 0 X [.ref 0, .int 1, .int w, .int i] M (fun v M1 => v = some (.int (if w < 0 then -2 else if w ≤ 2 then (if 0 ≤ i then -5 else -3) else -2)) ∧ Fm M1) := by
  refine AM.of false (by decide +kernel) (by intro h; cases h) (Nat.le_of_ble_eq_true rfl) ?_
  show AW X (RX10, cX10_spell, 4, (some .int), false, true, fr + 8) 0 0 0 [(0, .ref 0), (1, .int 1), (2, .int w), (3, .int i)] [] M _
  refine a_iload_n dX10_spell_0 rfl rfl ?_
  refine a_callS (As := [.int 1]) (st := []) (bc := 0) (bs := 0) (mc := 0) (ms := 0) false dX10_spell_1 mw_X10_noSlot rfl (Or.inl ⟨rfl, ml_X10_151⟩) sm_X10_noSlot rfl (Nat.le_of_ble_eq_true rfl) (k_noSlot (fr := fr + 7) 1) (fun v M1 hq => ?_)
  obtain ⟨rfl, hM1⟩ := hq
  rw [hM1]
  clear hM1 M1
  refine a_st (st2 := [.int 0]) (by decide +kernel) ?_
  refine a_if_ne 16 dX10_spell_4 (by decide) (fun c => absurd (by decide) c) (fun _ => ?_)
  refine a_iload_n dX10_spell_7 rfl rfl ?_
  refine a_if_lt 16 dX10_spell_8 (by decide) (fun c1 => ?_) (fun c1 => ?_)
  · refine a_bipush (v := (-2)) dX10_spell_16 (by decide) ?_
    exact a_iret dX10_spell_18 rfl ⟨by solve | rfl | (repeat (first | rw [if_pos (by assumption)] | rw [if_neg (by assumption)])) | simp_all, fm_of h0 (fun a k ha => by first | rfl | (repeat rw [up2_a _ _ _ _ (by omega)]))⟩
  · refine a_iload_n dX10_spell_11 rfl rfl ?_
    refine a_iconst (v := 2) dX10_spell_12 (by decide) ?_
    refine a_icmp_le 19 dX10_spell_13 (by decide) (fun c2 => ?_) (fun c2 => ?_)
    · refine a_iload_n dX10_spell_19 rfl rfl ?_
      refine a_if_ge 26 dX10_spell_20 (by decide) (fun c3 => ?_) (fun c3 => ?_)
      · refine a_aload_n dX10_spell_26 rfl rfl ?_
        refine a_get (v := .ref 24) dX10_spell_27 fl_10_38 (cw_l h0 (by decide)) (cw_s h0 (by decide) rfl) (cw_g h0 rfl (by decide +kernel)) ?_
        refine a_iload_n dX10_spell_30 rfl rfl ?_
        refine a_aaload (r := 28) dX10_spell_31 (cw_l h0 (by decide)) (cw_s h0 (by decide) rfl) (by unfold vp_in; decide +kernel) (cw_r h0 (by decide +kernel)) ?_
        refine a_getN (v := .int 0) dX10_spell_32 fn_10_171 (cw_l h0 (by decide)) (cw_s h0 (by decide) rfl) (cw_gi h0 rfl (by decide) (by first | decide +kernel | rfl)) ?_
        refine a_if_ne 41 dX10_spell_35 (by decide) (fun c => absurd (by decide) c) (fun _ => ?_)
        refine a_bipush (v := (-5)) dX10_spell_38 (by decide) ?_
        exact a_iret dX10_spell_40 rfl ⟨by solve | rfl | (repeat (first | rw [if_pos (by assumption)] | rw [if_neg (by assumption)])) | simp_all, fm_of h0 (fun a k ha => by first | rfl | (repeat rw [up2_a _ _ _ _ (by omega)]))⟩
      · refine a_bipush (v := (-3)) dX10_spell_23 (by decide) ?_
        exact a_iret dX10_spell_25 rfl ⟨by solve | rfl | (repeat (first | rw [if_pos (by assumption)] | rw [if_neg (by assumption)])) | simp_all, fm_of h0 (fun a k ha => by first | rfl | (repeat rw [up2_a _ _ _ _ (by omega)]))⟩
    · refine a_bipush (v := (-2)) dX10_spell_16 (by decide) ?_
      exact a_iret dX10_spell_18 rfl ⟨by solve | rfl | (repeat (first | rw [if_pos (by assumption)] | rw [if_neg (by assumption)])) | simp_all, fm_of h0 (fun a k ha => by first | rfl | (repeat rw [up2_a _ _ _ _ (by omega)]))⟩
set_option maxHeartbeats 4000000 in
set_option maxRecDepth 100000 in
theorem p_spell_2 {X : Nat × (Nat → Int32)} {fr : Nat} {M : Mem} (w : Int32) (i : Int32) (h0 : Cw 126 Lj134 fs42 gs31 M) : AM yX10_spell cX10_spell 4 (some .int) true (fr + 8) 0 0 X [.ref 0, .int 2, .int w, .int i] M (fun v M1 => v = some (.int (if w < 0 then -2 else if w ≤ 2 then (if 0 ≤ i then -5 else -3) else -2)) ∧ Fm M1) := by
  refine AM.of false (by decide +kernel) (by intro h; cases h) (Nat.le_of_ble_eq_true rfl) ?_
  show AW X (RX10, cX10_spell, 4, (some .int), false, true, fr + 8) 0 0 0 [(0, .ref 0), (1, .int 2), (2, .int w), (3, .int i)] [] M _
  refine a_iload_n dX10_spell_0 rfl rfl ?_
  refine a_callS (As := [.int 2]) (st := []) (bc := 0) (bs := 0) (mc := 0) (ms := 0) false dX10_spell_1 mw_X10_noSlot rfl (Or.inl ⟨rfl, ml_X10_151⟩) sm_X10_noSlot rfl (Nat.le_of_ble_eq_true rfl) (k_noSlot (fr := fr + 7) 2) (fun v M1 hq => ?_)
  obtain ⟨rfl, hM1⟩ := hq
  rw [hM1]
  clear hM1 M1
  refine a_st (st2 := [.int 0]) (by decide +kernel) ?_
  refine a_if_ne 16 dX10_spell_4 (by decide) (fun c => absurd (by decide) c) (fun _ => ?_)
  refine a_iload_n dX10_spell_7 rfl rfl ?_
  refine a_if_lt 16 dX10_spell_8 (by decide) (fun c1 => ?_) (fun c1 => ?_)
  · refine a_bipush (v := (-2)) dX10_spell_16 (by decide) ?_
    exact a_iret dX10_spell_18 rfl ⟨by solve | rfl | (repeat (first | rw [if_pos (by assumption)] | rw [if_neg (by assumption)])) | simp_all, fm_of h0 (fun a k ha => by first | rfl | (repeat rw [up2_a _ _ _ _ (by omega)]))⟩
  · refine a_iload_n dX10_spell_11 rfl rfl ?_
    refine a_iconst (v := 2) dX10_spell_12 (by decide) ?_
    refine a_icmp_le 19 dX10_spell_13 (by decide) (fun c2 => ?_) (fun c2 => ?_)
    · refine a_iload_n dX10_spell_19 rfl rfl ?_
      refine a_if_ge 26 dX10_spell_20 (by decide) (fun c3 => ?_) (fun c3 => ?_)
      · refine a_aload_n dX10_spell_26 rfl rfl ?_
        refine a_get (v := .ref 24) dX10_spell_27 fl_10_38 (cw_l h0 (by decide)) (cw_s h0 (by decide) rfl) (cw_g h0 rfl (by decide +kernel)) ?_
        refine a_iload_n dX10_spell_30 rfl rfl ?_
        refine a_aaload (r := 31) dX10_spell_31 (cw_l h0 (by decide)) (cw_s h0 (by decide) rfl) (by unfold vp_in; decide +kernel) (cw_r h0 (by decide +kernel)) ?_
        refine a_getN (v := .int 0) dX10_spell_32 fn_10_171 (cw_l h0 (by decide)) (cw_s h0 (by decide) rfl) (cw_gi h0 rfl (by decide) (by first | decide +kernel | rfl)) ?_
        refine a_if_ne 41 dX10_spell_35 (by decide) (fun c => absurd (by decide) c) (fun _ => ?_)
        refine a_bipush (v := (-5)) dX10_spell_38 (by decide) ?_
        exact a_iret dX10_spell_40 rfl ⟨by solve | rfl | (repeat (first | rw [if_pos (by assumption)] | rw [if_neg (by assumption)])) | simp_all, fm_of h0 (fun a k ha => by first | rfl | (repeat rw [up2_a _ _ _ _ (by omega)]))⟩
      · refine a_bipush (v := (-3)) dX10_spell_23 (by decide) ?_
        exact a_iret dX10_spell_25 rfl ⟨by solve | rfl | (repeat (first | rw [if_pos (by assumption)] | rw [if_neg (by assumption)])) | simp_all, fm_of h0 (fun a k ha => by first | rfl | (repeat rw [up2_a _ _ _ _ (by omega)]))⟩
    · refine a_bipush (v := (-2)) dX10_spell_16 (by decide) ?_
      exact a_iret dX10_spell_18 rfl ⟨by solve | rfl | (repeat (first | rw [if_pos (by assumption)] | rw [if_neg (by assumption)])) | simp_all, fm_of h0 (fun a k ha => by first | rfl | (repeat rw [up2_a _ _ _ _ (by omega)]))⟩
set_option maxHeartbeats 4000000 in
set_option maxRecDepth 100000 in
theorem p_spell_3 {X : Nat × (Nat → Int32)} {fr : Nat} {M : Mem} (w : Int32) (i : Int32) (h0 : Cw 126 Lj134 fs42 gs31 M) : AM yX10_spell cX10_spell 4 (some .int) true (fr + 8) 0 0 X [.ref 0, .int 3, .int w, .int i] M (fun v M1 => v = some (.int (if w < 0 then -2 else if w ≤ 2 then (if 0 ≤ i then -5 else -3) else -2)) ∧ Fm M1) := by
  refine AM.of false (by decide +kernel) (by intro h; cases h) (Nat.le_of_ble_eq_true rfl) ?_
  show AW X (RX10, cX10_spell, 4, (some .int), false, true, fr + 8) 0 0 0 [(0, .ref 0), (1, .int 3), (2, .int w), (3, .int i)] [] M _
  refine a_iload_n dX10_spell_0 rfl rfl ?_
  refine a_callS (As := [.int 3]) (st := []) (bc := 0) (bs := 0) (mc := 0) (ms := 0) false dX10_spell_1 mw_X10_noSlot rfl (Or.inl ⟨rfl, ml_X10_151⟩) sm_X10_noSlot rfl (Nat.le_of_ble_eq_true rfl) (k_noSlot (fr := fr + 7) 3) (fun v M1 hq => ?_)
  obtain ⟨rfl, hM1⟩ := hq
  rw [hM1]
  clear hM1 M1
  refine a_st (st2 := [.int 0]) (by decide +kernel) ?_
  refine a_if_ne 16 dX10_spell_4 (by decide) (fun c => absurd (by decide) c) (fun _ => ?_)
  refine a_iload_n dX10_spell_7 rfl rfl ?_
  refine a_if_lt 16 dX10_spell_8 (by decide) (fun c1 => ?_) (fun c1 => ?_)
  · refine a_bipush (v := (-2)) dX10_spell_16 (by decide) ?_
    exact a_iret dX10_spell_18 rfl ⟨by solve | rfl | (repeat (first | rw [if_pos (by assumption)] | rw [if_neg (by assumption)])) | simp_all, fm_of h0 (fun a k ha => by first | rfl | (repeat rw [up2_a _ _ _ _ (by omega)]))⟩
  · refine a_iload_n dX10_spell_11 rfl rfl ?_
    refine a_iconst (v := 2) dX10_spell_12 (by decide) ?_
    refine a_icmp_le 19 dX10_spell_13 (by decide) (fun c2 => ?_) (fun c2 => ?_)
    · refine a_iload_n dX10_spell_19 rfl rfl ?_
      refine a_if_ge 26 dX10_spell_20 (by decide) (fun c3 => ?_) (fun c3 => ?_)
      · refine a_aload_n dX10_spell_26 rfl rfl ?_
        refine a_get (v := .ref 24) dX10_spell_27 fl_10_38 (cw_l h0 (by decide)) (cw_s h0 (by decide) rfl) (cw_g h0 rfl (by decide +kernel)) ?_
        refine a_iload_n dX10_spell_30 rfl rfl ?_
        refine a_aaload (r := 34) dX10_spell_31 (cw_l h0 (by decide)) (cw_s h0 (by decide) rfl) (by unfold vp_in; decide +kernel) (cw_r h0 (by decide +kernel)) ?_
        refine a_getN (v := .int 0) dX10_spell_32 fn_10_171 (cw_l h0 (by decide)) (cw_s h0 (by decide) rfl) (cw_gi h0 rfl (by decide) (by first | decide +kernel | rfl)) ?_
        refine a_if_ne 41 dX10_spell_35 (by decide) (fun c => absurd (by decide) c) (fun _ => ?_)
        refine a_bipush (v := (-5)) dX10_spell_38 (by decide) ?_
        exact a_iret dX10_spell_40 rfl ⟨by solve | rfl | (repeat (first | rw [if_pos (by assumption)] | rw [if_neg (by assumption)])) | simp_all, fm_of h0 (fun a k ha => by first | rfl | (repeat rw [up2_a _ _ _ _ (by omega)]))⟩
      · refine a_bipush (v := (-3)) dX10_spell_23 (by decide) ?_
        exact a_iret dX10_spell_25 rfl ⟨by solve | rfl | (repeat (first | rw [if_pos (by assumption)] | rw [if_neg (by assumption)])) | simp_all, fm_of h0 (fun a k ha => by first | rfl | (repeat rw [up2_a _ _ _ _ (by omega)]))⟩
    · refine a_bipush (v := (-2)) dX10_spell_16 (by decide) ?_
      exact a_iret dX10_spell_18 rfl ⟨by solve | rfl | (repeat (first | rw [if_pos (by assumption)] | rw [if_neg (by assumption)])) | simp_all, fm_of h0 (fun a k ha => by first | rfl | (repeat rw [up2_a _ _ _ _ (by omega)]))⟩
set_option maxHeartbeats 4000000 in
set_option maxRecDepth 100000 in
theorem p_length_b {X : Nat × (Nat → Int32)} {fr : Nat} {M : Mem} (x : Int32) (w : Int32) (hb_x : x < 0 ∨ 4 ≤ x) (h0 : Cw 126 Lj134 fs42 gs31 M) : AM yX10_length cX10_length 3 (some .int) true (fr + 8) 0 0 X [.ref 0, .int x, .int w] M (fun v M1 => v = some (.int (-2)) ∧ Fm M1) := by
  refine AM.of false (by decide +kernel) (by intro h; cases h) (Nat.le_of_ble_eq_true rfl) ?_
  show AW X (RX10, cX10_length, 3, (some .int), false, true, fr + 8) 0 0 0 [(0, .ref 0), (1, .int x), (2, .int w)] [] M _
  refine a_iload_n dX10_length_0 rfl rfl ?_
  refine a_callS (As := [.int x]) (st := []) (bc := 0) (bs := 0) (mc := 0) (ms := 0) false dX10_length_1 mw_X10_noSlot rfl (Or.inl ⟨rfl, ml_X10_151⟩) sm_X10_noSlot rfl (Nat.le_of_ble_eq_true rfl) (k_noSlot (fr := fr + 7) x) (fun v M1 hq => ?_)
  obtain ⟨rfl, hM1⟩ := hq
  rw [hM1]
  clear hM1 M1
  refine a_st (st2 := [.int 1]) (by rw [if_pos hb_x]; rfl) ?_
  refine a_if_ne 16 dX10_length_4 (by decide) (fun _ => ?_) (fun c => absurd c (by decide))
  refine a_bipush (v := (-2)) dX10_length_16 (by decide) ?_
  exact a_iret dX10_length_18 rfl ⟨by first | rfl | decide +kernel | simp [*], fm_of h0 (fun a k ha => by first | rfl | (repeat rw [up2_a _ _ _ _ (by omega)]))⟩
set_option maxHeartbeats 4000000 in
set_option maxRecDepth 100000 in
theorem p_length_0 {X : Nat × (Nat → Int32)} {fr : Nat} {M : Mem} (w : Int32) (h0 : Cw 126 Lj134 fs42 gs31 M) : AM yX10_length cX10_length 3 (some .int) true (fr + 8) 0 0 X [.ref 0, .int 0, .int w] M (fun v M1 => v = some (.int (if w < 0 then -2 else if w ≤ 2 then -5 else -2)) ∧ Fm M1) := by
  refine AM.of false (by decide +kernel) (by intro h; cases h) (Nat.le_of_ble_eq_true rfl) ?_
  show AW X (RX10, cX10_length, 3, (some .int), false, true, fr + 8) 0 0 0 [(0, .ref 0), (1, .int 0), (2, .int w)] [] M _
  refine a_iload_n dX10_length_0 rfl rfl ?_
  refine a_callS (As := [.int 0]) (st := []) (bc := 0) (bs := 0) (mc := 0) (ms := 0) false dX10_length_1 mw_X10_noSlot rfl (Or.inl ⟨rfl, ml_X10_151⟩) sm_X10_noSlot rfl (Nat.le_of_ble_eq_true rfl) (k_noSlot (fr := fr + 7) 0) (fun v M1 hq => ?_)
  obtain ⟨rfl, hM1⟩ := hq
  rw [hM1]
  clear hM1 M1
  refine a_st (st2 := [.int 0]) (by decide +kernel) ?_
  refine a_if_ne 16 dX10_length_4 (by decide) (fun c => absurd (by decide) c) (fun _ => ?_)
  refine a_iload_n dX10_length_7 rfl rfl ?_
  refine a_if_lt 16 dX10_length_8 (by decide) (fun c1 => ?_) (fun c1 => ?_)
  · refine a_bipush (v := (-2)) dX10_length_16 (by decide) ?_
    exact a_iret dX10_length_18 rfl ⟨by solve | rfl | (repeat (first | rw [if_pos (by assumption)] | rw [if_neg (by assumption)])) | simp_all, fm_of h0 (fun a k ha => by first | rfl | (repeat rw [up2_a _ _ _ _ (by omega)]))⟩
  · refine a_iload_n dX10_length_11 rfl rfl ?_
    refine a_iconst (v := 2) dX10_length_12 (by decide) ?_
    refine a_icmp_le 19 dX10_length_13 (by decide) (fun c2 => ?_) (fun c2 => ?_)
    · refine a_aload_n dX10_length_19 rfl rfl ?_
      refine a_get (v := .ref 24) dX10_length_20 fl_10_38 (cw_l h0 (by decide)) (cw_s h0 (by decide) rfl) (cw_g h0 rfl (by decide +kernel)) ?_
      refine a_iload_n dX10_length_23 rfl rfl ?_
      refine a_aaload (r := 25) dX10_length_24 (cw_l h0 (by decide)) (cw_s h0 (by decide) rfl) (by unfold vp_in; decide +kernel) (cw_r h0 (by decide +kernel)) ?_
      refine a_getN (v := .int 0) dX10_length_25 fn_10_171 (cw_l h0 (by decide)) (cw_s h0 (by decide) rfl) (cw_gi h0 rfl (by decide) (by first | decide +kernel | rfl)) ?_
      refine a_if_ne 34 dX10_length_28 (by decide) (fun c => absurd (by decide) c) (fun _ => ?_)
      refine a_bipush (v := (-5)) dX10_length_31 (by decide) ?_
      exact a_iret dX10_length_33 rfl ⟨by solve | rfl | (repeat (first | rw [if_pos (by assumption)] | rw [if_neg (by assumption)])) | simp_all, fm_of h0 (fun a k ha => by first | rfl | (repeat rw [up2_a _ _ _ _ (by omega)]))⟩
    · refine a_bipush (v := (-2)) dX10_length_16 (by decide) ?_
      exact a_iret dX10_length_18 rfl ⟨by solve | rfl | (repeat (first | rw [if_pos (by assumption)] | rw [if_neg (by assumption)])) | simp_all, fm_of h0 (fun a k ha => by first | rfl | (repeat rw [up2_a _ _ _ _ (by omega)]))⟩
set_option maxHeartbeats 4000000 in
set_option maxRecDepth 100000 in
theorem p_length_1 {X : Nat × (Nat → Int32)} {fr : Nat} {M : Mem} (w : Int32) (h0 : Cw 126 Lj134 fs42 gs31 M) : AM yX10_length cX10_length 3 (some .int) true (fr + 8) 0 0 X [.ref 0, .int 1, .int w] M (fun v M1 => v = some (.int (if w < 0 then -2 else if w ≤ 2 then -5 else -2)) ∧ Fm M1) := by
  refine AM.of false (by decide +kernel) (by intro h; cases h) (Nat.le_of_ble_eq_true rfl) ?_
  show AW X (RX10, cX10_length, 3, (some .int), false, true, fr + 8) 0 0 0 [(0, .ref 0), (1, .int 1), (2, .int w)] [] M _
  refine a_iload_n dX10_length_0 rfl rfl ?_
  refine a_callS (As := [.int 1]) (st := []) (bc := 0) (bs := 0) (mc := 0) (ms := 0) false dX10_length_1 mw_X10_noSlot rfl (Or.inl ⟨rfl, ml_X10_151⟩) sm_X10_noSlot rfl (Nat.le_of_ble_eq_true rfl) (k_noSlot (fr := fr + 7) 1) (fun v M1 hq => ?_)
  obtain ⟨rfl, hM1⟩ := hq
  rw [hM1]
  clear hM1 M1
  refine a_st (st2 := [.int 0]) (by decide +kernel) ?_
  refine a_if_ne 16 dX10_length_4 (by decide) (fun c => absurd (by decide) c) (fun _ => ?_)
  refine a_iload_n dX10_length_7 rfl rfl ?_
  refine a_if_lt 16 dX10_length_8 (by decide) (fun c1 => ?_) (fun c1 => ?_)
  · refine a_bipush (v := (-2)) dX10_length_16 (by decide) ?_
    exact a_iret dX10_length_18 rfl ⟨by solve | rfl | (repeat (first | rw [if_pos (by assumption)] | rw [if_neg (by assumption)])) | simp_all, fm_of h0 (fun a k ha => by first | rfl | (repeat rw [up2_a _ _ _ _ (by omega)]))⟩
  · refine a_iload_n dX10_length_11 rfl rfl ?_
    refine a_iconst (v := 2) dX10_length_12 (by decide) ?_
    refine a_icmp_le 19 dX10_length_13 (by decide) (fun c2 => ?_) (fun c2 => ?_)
    · refine a_aload_n dX10_length_19 rfl rfl ?_
      refine a_get (v := .ref 24) dX10_length_20 fl_10_38 (cw_l h0 (by decide)) (cw_s h0 (by decide) rfl) (cw_g h0 rfl (by decide +kernel)) ?_
      refine a_iload_n dX10_length_23 rfl rfl ?_
      refine a_aaload (r := 28) dX10_length_24 (cw_l h0 (by decide)) (cw_s h0 (by decide) rfl) (by unfold vp_in; decide +kernel) (cw_r h0 (by decide +kernel)) ?_
      refine a_getN (v := .int 0) dX10_length_25 fn_10_171 (cw_l h0 (by decide)) (cw_s h0 (by decide) rfl) (cw_gi h0 rfl (by decide) (by first | decide +kernel | rfl)) ?_
      refine a_if_ne 34 dX10_length_28 (by decide) (fun c => absurd (by decide) c) (fun _ => ?_)
      refine a_bipush (v := (-5)) dX10_length_31 (by decide) ?_
      exact a_iret dX10_length_33 rfl ⟨by solve | rfl | (repeat (first | rw [if_pos (by assumption)] | rw [if_neg (by assumption)])) | simp_all, fm_of h0 (fun a k ha => by first | rfl | (repeat rw [up2_a _ _ _ _ (by omega)]))⟩
    · refine a_bipush (v := (-2)) dX10_length_16 (by decide) ?_
      exact a_iret dX10_length_18 rfl ⟨by solve | rfl | (repeat (first | rw [if_pos (by assumption)] | rw [if_neg (by assumption)])) | simp_all, fm_of h0 (fun a k ha => by first | rfl | (repeat rw [up2_a _ _ _ _ (by omega)]))⟩
set_option maxHeartbeats 4000000 in
set_option maxRecDepth 100000 in
theorem p_length_2 {X : Nat × (Nat → Int32)} {fr : Nat} {M : Mem} (w : Int32) (h0 : Cw 126 Lj134 fs42 gs31 M) : AM yX10_length cX10_length 3 (some .int) true (fr + 8) 0 0 X [.ref 0, .int 2, .int w] M (fun v M1 => v = some (.int (if w < 0 then -2 else if w ≤ 2 then -5 else -2)) ∧ Fm M1) := by
  refine AM.of false (by decide +kernel) (by intro h; cases h) (Nat.le_of_ble_eq_true rfl) ?_
  show AW X (RX10, cX10_length, 3, (some .int), false, true, fr + 8) 0 0 0 [(0, .ref 0), (1, .int 2), (2, .int w)] [] M _
  refine a_iload_n dX10_length_0 rfl rfl ?_
  refine a_callS (As := [.int 2]) (st := []) (bc := 0) (bs := 0) (mc := 0) (ms := 0) false dX10_length_1 mw_X10_noSlot rfl (Or.inl ⟨rfl, ml_X10_151⟩) sm_X10_noSlot rfl (Nat.le_of_ble_eq_true rfl) (k_noSlot (fr := fr + 7) 2) (fun v M1 hq => ?_)
  obtain ⟨rfl, hM1⟩ := hq
  rw [hM1]
  clear hM1 M1
  refine a_st (st2 := [.int 0]) (by decide +kernel) ?_
  refine a_if_ne 16 dX10_length_4 (by decide) (fun c => absurd (by decide) c) (fun _ => ?_)
  refine a_iload_n dX10_length_7 rfl rfl ?_
  refine a_if_lt 16 dX10_length_8 (by decide) (fun c1 => ?_) (fun c1 => ?_)
  · refine a_bipush (v := (-2)) dX10_length_16 (by decide) ?_
    exact a_iret dX10_length_18 rfl ⟨by solve | rfl | (repeat (first | rw [if_pos (by assumption)] | rw [if_neg (by assumption)])) | simp_all, fm_of h0 (fun a k ha => by first | rfl | (repeat rw [up2_a _ _ _ _ (by omega)]))⟩
  · refine a_iload_n dX10_length_11 rfl rfl ?_
    refine a_iconst (v := 2) dX10_length_12 (by decide) ?_
    refine a_icmp_le 19 dX10_length_13 (by decide) (fun c2 => ?_) (fun c2 => ?_)
    · refine a_aload_n dX10_length_19 rfl rfl ?_
      refine a_get (v := .ref 24) dX10_length_20 fl_10_38 (cw_l h0 (by decide)) (cw_s h0 (by decide) rfl) (cw_g h0 rfl (by decide +kernel)) ?_
      refine a_iload_n dX10_length_23 rfl rfl ?_
      refine a_aaload (r := 31) dX10_length_24 (cw_l h0 (by decide)) (cw_s h0 (by decide) rfl) (by unfold vp_in; decide +kernel) (cw_r h0 (by decide +kernel)) ?_
      refine a_getN (v := .int 0) dX10_length_25 fn_10_171 (cw_l h0 (by decide)) (cw_s h0 (by decide) rfl) (cw_gi h0 rfl (by decide) (by first | decide +kernel | rfl)) ?_
      refine a_if_ne 34 dX10_length_28 (by decide) (fun c => absurd (by decide) c) (fun _ => ?_)
      refine a_bipush (v := (-5)) dX10_length_31 (by decide) ?_
      exact a_iret dX10_length_33 rfl ⟨by solve | rfl | (repeat (first | rw [if_pos (by assumption)] | rw [if_neg (by assumption)])) | simp_all, fm_of h0 (fun a k ha => by first | rfl | (repeat rw [up2_a _ _ _ _ (by omega)]))⟩
    · refine a_bipush (v := (-2)) dX10_length_16 (by decide) ?_
      exact a_iret dX10_length_18 rfl ⟨by solve | rfl | (repeat (first | rw [if_pos (by assumption)] | rw [if_neg (by assumption)])) | simp_all, fm_of h0 (fun a k ha => by first | rfl | (repeat rw [up2_a _ _ _ _ (by omega)]))⟩
set_option maxHeartbeats 4000000 in
set_option maxRecDepth 100000 in
theorem p_length_3 {X : Nat × (Nat → Int32)} {fr : Nat} {M : Mem} (w : Int32) (h0 : Cw 126 Lj134 fs42 gs31 M) : AM yX10_length cX10_length 3 (some .int) true (fr + 8) 0 0 X [.ref 0, .int 3, .int w] M (fun v M1 => v = some (.int (if w < 0 then -2 else if w ≤ 2 then -5 else -2)) ∧ Fm M1) := by
  refine AM.of false (by decide +kernel) (by intro h; cases h) (Nat.le_of_ble_eq_true rfl) ?_
  show AW X (RX10, cX10_length, 3, (some .int), false, true, fr + 8) 0 0 0 [(0, .ref 0), (1, .int 3), (2, .int w)] [] M _
  refine a_iload_n dX10_length_0 rfl rfl ?_
  refine a_callS (As := [.int 3]) (st := []) (bc := 0) (bs := 0) (mc := 0) (ms := 0) false dX10_length_1 mw_X10_noSlot rfl (Or.inl ⟨rfl, ml_X10_151⟩) sm_X10_noSlot rfl (Nat.le_of_ble_eq_true rfl) (k_noSlot (fr := fr + 7) 3) (fun v M1 hq => ?_)
  obtain ⟨rfl, hM1⟩ := hq
  rw [hM1]
  clear hM1 M1
  refine a_st (st2 := [.int 0]) (by decide +kernel) ?_
  refine a_if_ne 16 dX10_length_4 (by decide) (fun c => absurd (by decide) c) (fun _ => ?_)
  refine a_iload_n dX10_length_7 rfl rfl ?_
  refine a_if_lt 16 dX10_length_8 (by decide) (fun c1 => ?_) (fun c1 => ?_)
  · refine a_bipush (v := (-2)) dX10_length_16 (by decide) ?_
    exact a_iret dX10_length_18 rfl ⟨by solve | rfl | (repeat (first | rw [if_pos (by assumption)] | rw [if_neg (by assumption)])) | simp_all, fm_of h0 (fun a k ha => by first | rfl | (repeat rw [up2_a _ _ _ _ (by omega)]))⟩
  · refine a_iload_n dX10_length_11 rfl rfl ?_
    refine a_iconst (v := 2) dX10_length_12 (by decide) ?_
    refine a_icmp_le 19 dX10_length_13 (by decide) (fun c2 => ?_) (fun c2 => ?_)
    · refine a_aload_n dX10_length_19 rfl rfl ?_
      refine a_get (v := .ref 24) dX10_length_20 fl_10_38 (cw_l h0 (by decide)) (cw_s h0 (by decide) rfl) (cw_g h0 rfl (by decide +kernel)) ?_
      refine a_iload_n dX10_length_23 rfl rfl ?_
      refine a_aaload (r := 34) dX10_length_24 (cw_l h0 (by decide)) (cw_s h0 (by decide) rfl) (by unfold vp_in; decide +kernel) (cw_r h0 (by decide +kernel)) ?_
      refine a_getN (v := .int 0) dX10_length_25 fn_10_171 (cw_l h0 (by decide)) (cw_s h0 (by decide) rfl) (cw_gi h0 rfl (by decide) (by first | decide +kernel | rfl)) ?_
      refine a_if_ne 34 dX10_length_28 (by decide) (fun c => absurd (by decide) c) (fun _ => ?_)
      refine a_bipush (v := (-5)) dX10_length_31 (by decide) ?_
      exact a_iret dX10_length_33 rfl ⟨by solve | rfl | (repeat (first | rw [if_pos (by assumption)] | rw [if_neg (by assumption)])) | simp_all, fm_of h0 (fun a k ha => by first | rfl | (repeat rw [up2_a _ _ _ _ (by omega)]))⟩
    · refine a_bipush (v := (-2)) dX10_length_16 (by decide) ?_
      exact a_iret dX10_length_18 rfl ⟨by solve | rfl | (repeat (first | rw [if_pos (by assumption)] | rw [if_neg (by assumption)])) | simp_all, fm_of h0 (fun a k ha => by first | rfl | (repeat rw [up2_a _ _ _ _ (by omega)]))⟩
set_option maxHeartbeats 4000000 in
set_option maxRecDepth 100000 in
theorem p_size_b {X : Nat × (Nat → Int32)} {fr : Nat} {M : Mem} (x : Int32) (w : Int32) (hb_x : x < 0 ∨ 4 ≤ x) (h0 : Cw 126 Lj134 fs42 gs31 M) : AM yX10_size cX10_size 4 (some .int) true (fr + 8) 0 0 X [.ref 0, .int x, .int w] M (fun v M1 => v = some (.int (-2)) ∧ Fm M1) := by
  refine AM.of false (by decide +kernel) (by intro h; cases h) (Nat.le_of_ble_eq_true rfl) ?_
  show AW X (RX10, cX10_size, 4, (some .int), false, true, fr + 8) 0 0 0 [(0, .ref 0), (1, .int x), (2, .int w)] [] M _
  refine a_iload_n dX10_size_0 rfl rfl ?_
  refine a_callS (As := [.int x]) (st := []) (bc := 0) (bs := 0) (mc := 0) (ms := 0) false dX10_size_1 mw_X10_noSlot rfl (Or.inl ⟨rfl, ml_X10_151⟩) sm_X10_noSlot rfl (Nat.le_of_ble_eq_true rfl) (k_noSlot (fr := fr + 7) x) (fun v M1 hq => ?_)
  obtain ⟨rfl, hM1⟩ := hq
  rw [hM1]
  clear hM1 M1
  refine a_st (st2 := [.int 1]) (by rw [if_pos hb_x]; rfl) ?_
  refine a_if_ne 17 dX10_size_4 (by decide) (fun _ => ?_) (fun c => absurd c (by decide))
  refine a_bipush (v := (-2)) dX10_size_17 (by decide) ?_
  exact a_iret dX10_size_19 rfl ⟨by first | rfl | decide +kernel | simp [*], fm_of h0 (fun a k ha => by first | rfl | (repeat rw [up2_a _ _ _ _ (by omega)]))⟩
set_option maxHeartbeats 4000000 in
set_option maxRecDepth 100000 in
theorem p_size_0 {X : Nat × (Nat → Int32)} {fr : Nat} {M : Mem} (w : Int32) (h0 : Cw 126 Lj134 fs42 gs31 M) : AM yX10_size cX10_size 4 (some .int) true (fr + 8) 0 0 X [.ref 0, .int 0, .int w] M (fun v M1 => v = some (.int (if w < 0 then -2 else if w ≤ 6 then -5 else -2)) ∧ Fm M1) := by
  refine AM.of false (by decide +kernel) (by intro h; cases h) (Nat.le_of_ble_eq_true rfl) ?_
  show AW X (RX10, cX10_size, 4, (some .int), false, true, fr + 8) 0 0 0 [(0, .ref 0), (1, .int 0), (2, .int w)] [] M _
  refine a_iload_n dX10_size_0 rfl rfl ?_
  refine a_callS (As := [.int 0]) (st := []) (bc := 0) (bs := 0) (mc := 0) (ms := 0) false dX10_size_1 mw_X10_noSlot rfl (Or.inl ⟨rfl, ml_X10_151⟩) sm_X10_noSlot rfl (Nat.le_of_ble_eq_true rfl) (k_noSlot (fr := fr + 7) 0) (fun v M1 hq => ?_)
  obtain ⟨rfl, hM1⟩ := hq
  rw [hM1]
  clear hM1 M1
  refine a_st (st2 := [.int 0]) (by decide +kernel) ?_
  refine a_if_ne 17 dX10_size_4 (by decide) (fun c => absurd (by decide) c) (fun _ => ?_)
  refine a_iload_n dX10_size_7 rfl rfl ?_
  refine a_if_lt 17 dX10_size_8 (by decide) (fun c1 => ?_) (fun c1 => ?_)
  · refine a_bipush (v := (-2)) dX10_size_17 (by decide) ?_
    exact a_iret dX10_size_19 rfl ⟨by solve | rfl | (repeat (first | rw [if_pos (by assumption)] | rw [if_neg (by assumption)])) | simp_all, fm_of h0 (fun a k ha => by first | rfl | (repeat rw [up2_a _ _ _ _ (by omega)]))⟩
  · refine a_iload_n dX10_size_11 rfl rfl ?_
    refine a_bipush (v := 6) dX10_size_12 (by decide) ?_
    refine a_icmp_le 20 dX10_size_14 (by decide) (fun c2 => ?_) (fun c2 => ?_)
    · refine a_aload_n dX10_size_20 rfl rfl ?_
      refine a_get (v := .ref 24) dX10_size_21 fl_10_38 (cw_l h0 (by decide)) (cw_s h0 (by decide) rfl) (cw_g h0 rfl (by decide +kernel)) ?_
      refine a_iload_n dX10_size_24 rfl rfl ?_
      refine a_aaload (r := 25) dX10_size_25 (cw_l h0 (by decide)) (cw_s h0 (by decide) rfl) (by unfold vp_in; decide +kernel) (cw_r h0 (by decide +kernel)) ?_
      refine a_astore_n dX10_size_26 rfl (Nat.le_of_ble_eq_true rfl) (lv2 := [(3, .ref 25), (0, .ref 0), (1, .int 0), (2, .int w)]) rfl ?_
      refine a_aload_n dX10_size_27 rfl rfl ?_
      refine a_getN (v := .int 0) dX10_size_28 fn_10_171 (cw_l h0 (by decide)) (cw_s h0 (by decide) rfl) (cw_gi h0 rfl (by decide) (by first | decide +kernel | rfl)) ?_
      refine a_if_ne 37 dX10_size_31 (by decide) (fun c => absurd (by decide) c) (fun _ => ?_)
      refine a_bipush (v := (-5)) dX10_size_34 (by decide) ?_
      exact a_iret dX10_size_36 rfl ⟨by solve | rfl | (repeat (first | rw [if_pos (by assumption)] | rw [if_neg (by assumption)])) | simp_all, fm_of h0 (fun a k ha => by first | rfl | (repeat rw [up2_a _ _ _ _ (by omega)]))⟩
    · refine a_bipush (v := (-2)) dX10_size_17 (by decide) ?_
      exact a_iret dX10_size_19 rfl ⟨by solve | rfl | (repeat (first | rw [if_pos (by assumption)] | rw [if_neg (by assumption)])) | simp_all, fm_of h0 (fun a k ha => by first | rfl | (repeat rw [up2_a _ _ _ _ (by omega)]))⟩
set_option maxHeartbeats 4000000 in
set_option maxRecDepth 100000 in
theorem p_size_1 {X : Nat × (Nat → Int32)} {fr : Nat} {M : Mem} (w : Int32) (h0 : Cw 126 Lj134 fs42 gs31 M) : AM yX10_size cX10_size 4 (some .int) true (fr + 8) 0 0 X [.ref 0, .int 1, .int w] M (fun v M1 => v = some (.int (if w < 0 then -2 else if w ≤ 6 then -5 else -2)) ∧ Fm M1) := by
  refine AM.of false (by decide +kernel) (by intro h; cases h) (Nat.le_of_ble_eq_true rfl) ?_
  show AW X (RX10, cX10_size, 4, (some .int), false, true, fr + 8) 0 0 0 [(0, .ref 0), (1, .int 1), (2, .int w)] [] M _
  refine a_iload_n dX10_size_0 rfl rfl ?_
  refine a_callS (As := [.int 1]) (st := []) (bc := 0) (bs := 0) (mc := 0) (ms := 0) false dX10_size_1 mw_X10_noSlot rfl (Or.inl ⟨rfl, ml_X10_151⟩) sm_X10_noSlot rfl (Nat.le_of_ble_eq_true rfl) (k_noSlot (fr := fr + 7) 1) (fun v M1 hq => ?_)
  obtain ⟨rfl, hM1⟩ := hq
  rw [hM1]
  clear hM1 M1
  refine a_st (st2 := [.int 0]) (by decide +kernel) ?_
  refine a_if_ne 17 dX10_size_4 (by decide) (fun c => absurd (by decide) c) (fun _ => ?_)
  refine a_iload_n dX10_size_7 rfl rfl ?_
  refine a_if_lt 17 dX10_size_8 (by decide) (fun c1 => ?_) (fun c1 => ?_)
  · refine a_bipush (v := (-2)) dX10_size_17 (by decide) ?_
    exact a_iret dX10_size_19 rfl ⟨by solve | rfl | (repeat (first | rw [if_pos (by assumption)] | rw [if_neg (by assumption)])) | simp_all, fm_of h0 (fun a k ha => by first | rfl | (repeat rw [up2_a _ _ _ _ (by omega)]))⟩
  · refine a_iload_n dX10_size_11 rfl rfl ?_
    refine a_bipush (v := 6) dX10_size_12 (by decide) ?_
    refine a_icmp_le 20 dX10_size_14 (by decide) (fun c2 => ?_) (fun c2 => ?_)
    · refine a_aload_n dX10_size_20 rfl rfl ?_
      refine a_get (v := .ref 24) dX10_size_21 fl_10_38 (cw_l h0 (by decide)) (cw_s h0 (by decide) rfl) (cw_g h0 rfl (by decide +kernel)) ?_
      refine a_iload_n dX10_size_24 rfl rfl ?_
      refine a_aaload (r := 28) dX10_size_25 (cw_l h0 (by decide)) (cw_s h0 (by decide) rfl) (by unfold vp_in; decide +kernel) (cw_r h0 (by decide +kernel)) ?_
      refine a_astore_n dX10_size_26 rfl (Nat.le_of_ble_eq_true rfl) (lv2 := [(3, .ref 28), (0, .ref 0), (1, .int 1), (2, .int w)]) rfl ?_
      refine a_aload_n dX10_size_27 rfl rfl ?_
      refine a_getN (v := .int 0) dX10_size_28 fn_10_171 (cw_l h0 (by decide)) (cw_s h0 (by decide) rfl) (cw_gi h0 rfl (by decide) (by first | decide +kernel | rfl)) ?_
      refine a_if_ne 37 dX10_size_31 (by decide) (fun c => absurd (by decide) c) (fun _ => ?_)
      refine a_bipush (v := (-5)) dX10_size_34 (by decide) ?_
      exact a_iret dX10_size_36 rfl ⟨by solve | rfl | (repeat (first | rw [if_pos (by assumption)] | rw [if_neg (by assumption)])) | simp_all, fm_of h0 (fun a k ha => by first | rfl | (repeat rw [up2_a _ _ _ _ (by omega)]))⟩
    · refine a_bipush (v := (-2)) dX10_size_17 (by decide) ?_
      exact a_iret dX10_size_19 rfl ⟨by solve | rfl | (repeat (first | rw [if_pos (by assumption)] | rw [if_neg (by assumption)])) | simp_all, fm_of h0 (fun a k ha => by first | rfl | (repeat rw [up2_a _ _ _ _ (by omega)]))⟩
set_option maxHeartbeats 4000000 in
set_option maxRecDepth 100000 in
theorem p_size_2 {X : Nat × (Nat → Int32)} {fr : Nat} {M : Mem} (w : Int32) (h0 : Cw 126 Lj134 fs42 gs31 M) : AM yX10_size cX10_size 4 (some .int) true (fr + 8) 0 0 X [.ref 0, .int 2, .int w] M (fun v M1 => v = some (.int (if w < 0 then -2 else if w ≤ 6 then -5 else -2)) ∧ Fm M1) := by
  refine AM.of false (by decide +kernel) (by intro h; cases h) (Nat.le_of_ble_eq_true rfl) ?_
  show AW X (RX10, cX10_size, 4, (some .int), false, true, fr + 8) 0 0 0 [(0, .ref 0), (1, .int 2), (2, .int w)] [] M _
  refine a_iload_n dX10_size_0 rfl rfl ?_
  refine a_callS (As := [.int 2]) (st := []) (bc := 0) (bs := 0) (mc := 0) (ms := 0) false dX10_size_1 mw_X10_noSlot rfl (Or.inl ⟨rfl, ml_X10_151⟩) sm_X10_noSlot rfl (Nat.le_of_ble_eq_true rfl) (k_noSlot (fr := fr + 7) 2) (fun v M1 hq => ?_)
  obtain ⟨rfl, hM1⟩ := hq
  rw [hM1]
  clear hM1 M1
  refine a_st (st2 := [.int 0]) (by decide +kernel) ?_
  refine a_if_ne 17 dX10_size_4 (by decide) (fun c => absurd (by decide) c) (fun _ => ?_)
  refine a_iload_n dX10_size_7 rfl rfl ?_
  refine a_if_lt 17 dX10_size_8 (by decide) (fun c1 => ?_) (fun c1 => ?_)
  · refine a_bipush (v := (-2)) dX10_size_17 (by decide) ?_
    exact a_iret dX10_size_19 rfl ⟨by solve | rfl | (repeat (first | rw [if_pos (by assumption)] | rw [if_neg (by assumption)])) | simp_all, fm_of h0 (fun a k ha => by first | rfl | (repeat rw [up2_a _ _ _ _ (by omega)]))⟩
  · refine a_iload_n dX10_size_11 rfl rfl ?_
    refine a_bipush (v := 6) dX10_size_12 (by decide) ?_
    refine a_icmp_le 20 dX10_size_14 (by decide) (fun c2 => ?_) (fun c2 => ?_)
    · refine a_aload_n dX10_size_20 rfl rfl ?_
      refine a_get (v := .ref 24) dX10_size_21 fl_10_38 (cw_l h0 (by decide)) (cw_s h0 (by decide) rfl) (cw_g h0 rfl (by decide +kernel)) ?_
      refine a_iload_n dX10_size_24 rfl rfl ?_
      refine a_aaload (r := 31) dX10_size_25 (cw_l h0 (by decide)) (cw_s h0 (by decide) rfl) (by unfold vp_in; decide +kernel) (cw_r h0 (by decide +kernel)) ?_
      refine a_astore_n dX10_size_26 rfl (Nat.le_of_ble_eq_true rfl) (lv2 := [(3, .ref 31), (0, .ref 0), (1, .int 2), (2, .int w)]) rfl ?_
      refine a_aload_n dX10_size_27 rfl rfl ?_
      refine a_getN (v := .int 0) dX10_size_28 fn_10_171 (cw_l h0 (by decide)) (cw_s h0 (by decide) rfl) (cw_gi h0 rfl (by decide) (by first | decide +kernel | rfl)) ?_
      refine a_if_ne 37 dX10_size_31 (by decide) (fun c => absurd (by decide) c) (fun _ => ?_)
      refine a_bipush (v := (-5)) dX10_size_34 (by decide) ?_
      exact a_iret dX10_size_36 rfl ⟨by solve | rfl | (repeat (first | rw [if_pos (by assumption)] | rw [if_neg (by assumption)])) | simp_all, fm_of h0 (fun a k ha => by first | rfl | (repeat rw [up2_a _ _ _ _ (by omega)]))⟩
    · refine a_bipush (v := (-2)) dX10_size_17 (by decide) ?_
      exact a_iret dX10_size_19 rfl ⟨by solve | rfl | (repeat (first | rw [if_pos (by assumption)] | rw [if_neg (by assumption)])) | simp_all, fm_of h0 (fun a k ha => by first | rfl | (repeat rw [up2_a _ _ _ _ (by omega)]))⟩
set_option maxHeartbeats 4000000 in
set_option maxRecDepth 100000 in
theorem p_size_3 {X : Nat × (Nat → Int32)} {fr : Nat} {M : Mem} (w : Int32) (h0 : Cw 126 Lj134 fs42 gs31 M) : AM yX10_size cX10_size 4 (some .int) true (fr + 8) 0 0 X [.ref 0, .int 3, .int w] M (fun v M1 => v = some (.int (if w < 0 then -2 else if w ≤ 6 then -5 else -2)) ∧ Fm M1) := by
  refine AM.of false (by decide +kernel) (by intro h; cases h) (Nat.le_of_ble_eq_true rfl) ?_
  show AW X (RX10, cX10_size, 4, (some .int), false, true, fr + 8) 0 0 0 [(0, .ref 0), (1, .int 3), (2, .int w)] [] M _
  refine a_iload_n dX10_size_0 rfl rfl ?_
  refine a_callS (As := [.int 3]) (st := []) (bc := 0) (bs := 0) (mc := 0) (ms := 0) false dX10_size_1 mw_X10_noSlot rfl (Or.inl ⟨rfl, ml_X10_151⟩) sm_X10_noSlot rfl (Nat.le_of_ble_eq_true rfl) (k_noSlot (fr := fr + 7) 3) (fun v M1 hq => ?_)
  obtain ⟨rfl, hM1⟩ := hq
  rw [hM1]
  clear hM1 M1
  refine a_st (st2 := [.int 0]) (by decide +kernel) ?_
  refine a_if_ne 17 dX10_size_4 (by decide) (fun c => absurd (by decide) c) (fun _ => ?_)
  refine a_iload_n dX10_size_7 rfl rfl ?_
  refine a_if_lt 17 dX10_size_8 (by decide) (fun c1 => ?_) (fun c1 => ?_)
  · refine a_bipush (v := (-2)) dX10_size_17 (by decide) ?_
    exact a_iret dX10_size_19 rfl ⟨by solve | rfl | (repeat (first | rw [if_pos (by assumption)] | rw [if_neg (by assumption)])) | simp_all, fm_of h0 (fun a k ha => by first | rfl | (repeat rw [up2_a _ _ _ _ (by omega)]))⟩
  · refine a_iload_n dX10_size_11 rfl rfl ?_
    refine a_bipush (v := 6) dX10_size_12 (by decide) ?_
    refine a_icmp_le 20 dX10_size_14 (by decide) (fun c2 => ?_) (fun c2 => ?_)
    · refine a_aload_n dX10_size_20 rfl rfl ?_
      refine a_get (v := .ref 24) dX10_size_21 fl_10_38 (cw_l h0 (by decide)) (cw_s h0 (by decide) rfl) (cw_g h0 rfl (by decide +kernel)) ?_
      refine a_iload_n dX10_size_24 rfl rfl ?_
      refine a_aaload (r := 34) dX10_size_25 (cw_l h0 (by decide)) (cw_s h0 (by decide) rfl) (by unfold vp_in; decide +kernel) (cw_r h0 (by decide +kernel)) ?_
      refine a_astore_n dX10_size_26 rfl (Nat.le_of_ble_eq_true rfl) (lv2 := [(3, .ref 34), (0, .ref 0), (1, .int 3), (2, .int w)]) rfl ?_
      refine a_aload_n dX10_size_27 rfl rfl ?_
      refine a_getN (v := .int 0) dX10_size_28 fn_10_171 (cw_l h0 (by decide)) (cw_s h0 (by decide) rfl) (cw_gi h0 rfl (by decide) (by first | decide +kernel | rfl)) ?_
      refine a_if_ne 37 dX10_size_31 (by decide) (fun c => absurd (by decide) c) (fun _ => ?_)
      refine a_bipush (v := (-5)) dX10_size_34 (by decide) ?_
      exact a_iret dX10_size_36 rfl ⟨by solve | rfl | (repeat (first | rw [if_pos (by assumption)] | rw [if_neg (by assumption)])) | simp_all, fm_of h0 (fun a k ha => by first | rfl | (repeat rw [up2_a _ _ _ _ (by omega)]))⟩
    · refine a_bipush (v := (-2)) dX10_size_17 (by decide) ?_
      exact a_iret dX10_size_19 rfl ⟨by solve | rfl | (repeat (first | rw [if_pos (by assumption)] | rw [if_neg (by assumption)])) | simp_all, fm_of h0 (fun a k ha => by first | rfl | (repeat rw [up2_a _ _ _ _ (by omega)]))⟩
set_option maxHeartbeats 4000000 in
set_option maxRecDepth 100000 in
theorem p_redexes_b {X : Nat × (Nat → Int32)} {fr : Nat} {M : Mem} (x : Int32) (w : Int32) (hb_x : x < 0 ∨ 4 ≤ x) (h0 : Cw 126 Lj134 fs42 gs31 M) : AM yX10_redexes cX10_redexes 3 (some .int) true (fr + 8) 0 0 X [.ref 0, .int x, .int w] M (fun v M1 => v = some (.int (-2)) ∧ Fm M1) := by
  refine AM.of false (by decide +kernel) (by intro h; cases h) (Nat.le_of_ble_eq_true rfl) ?_
  show AW X (RX10, cX10_redexes, 3, (some .int), false, true, fr + 8) 0 0 0 [(0, .ref 0), (1, .int x), (2, .int w)] [] M _
  refine a_iload_n dX10_redexes_0 rfl rfl ?_
  refine a_callS (As := [.int x]) (st := []) (bc := 0) (bs := 0) (mc := 0) (ms := 0) false dX10_redexes_1 mw_X10_noSlot rfl (Or.inl ⟨rfl, ml_X10_151⟩) sm_X10_noSlot rfl (Nat.le_of_ble_eq_true rfl) (k_noSlot (fr := fr + 7) x) (fun v M1 hq => ?_)
  obtain ⟨rfl, hM1⟩ := hq
  rw [hM1]
  clear hM1 M1
  refine a_st (st2 := [.int 1]) (by rw [if_pos hb_x]; rfl) ?_
  refine a_if_ne 17 dX10_redexes_4 (by decide) (fun _ => ?_) (fun c => absurd c (by decide))
  refine a_bipush (v := (-2)) dX10_redexes_17 (by decide) ?_
  exact a_iret dX10_redexes_19 rfl ⟨by first | rfl | decide +kernel | simp [*], fm_of h0 (fun a k ha => by first | rfl | (repeat rw [up2_a _ _ _ _ (by omega)]))⟩
set_option maxHeartbeats 4000000 in
set_option maxRecDepth 100000 in
theorem p_redexes_0 {X : Nat × (Nat → Int32)} {fr : Nat} {M : Mem} (w : Int32) (h0 : Cw 126 Lj134 fs42 gs31 M) : AM yX10_redexes cX10_redexes 3 (some .int) true (fr + 8) 0 0 X [.ref 0, .int 0, .int w] M (fun v M1 => v = some (.int (if w < 0 then -2 else if w ≤ 7 then -5 else -2)) ∧ Fm M1) := by
  refine AM.of false (by decide +kernel) (by intro h; cases h) (Nat.le_of_ble_eq_true rfl) ?_
  show AW X (RX10, cX10_redexes, 3, (some .int), false, true, fr + 8) 0 0 0 [(0, .ref 0), (1, .int 0), (2, .int w)] [] M _
  refine a_iload_n dX10_redexes_0 rfl rfl ?_
  refine a_callS (As := [.int 0]) (st := []) (bc := 0) (bs := 0) (mc := 0) (ms := 0) false dX10_redexes_1 mw_X10_noSlot rfl (Or.inl ⟨rfl, ml_X10_151⟩) sm_X10_noSlot rfl (Nat.le_of_ble_eq_true rfl) (k_noSlot (fr := fr + 7) 0) (fun v M1 hq => ?_)
  obtain ⟨rfl, hM1⟩ := hq
  rw [hM1]
  clear hM1 M1
  refine a_st (st2 := [.int 0]) (by decide +kernel) ?_
  refine a_if_ne 17 dX10_redexes_4 (by decide) (fun c => absurd (by decide) c) (fun _ => ?_)
  refine a_iload_n dX10_redexes_7 rfl rfl ?_
  refine a_if_lt 17 dX10_redexes_8 (by decide) (fun c1 => ?_) (fun c1 => ?_)
  · refine a_bipush (v := (-2)) dX10_redexes_17 (by decide) ?_
    exact a_iret dX10_redexes_19 rfl ⟨by solve | rfl | (repeat (first | rw [if_pos (by assumption)] | rw [if_neg (by assumption)])) | simp_all, fm_of h0 (fun a k ha => by first | rfl | (repeat rw [up2_a _ _ _ _ (by omega)]))⟩
  · refine a_iload_n dX10_redexes_11 rfl rfl ?_
    refine a_bipush (v := 7) dX10_redexes_12 (by decide) ?_
    refine a_icmp_le 20 dX10_redexes_14 (by decide) (fun c2 => ?_) (fun c2 => ?_)
    · refine a_aload_n dX10_redexes_20 rfl rfl ?_
      refine a_get (v := .ref 24) dX10_redexes_21 fl_10_38 (cw_l h0 (by decide)) (cw_s h0 (by decide) rfl) (cw_g h0 rfl (by decide +kernel)) ?_
      refine a_iload_n dX10_redexes_24 rfl rfl ?_
      refine a_aaload (r := 25) dX10_redexes_25 (cw_l h0 (by decide)) (cw_s h0 (by decide) rfl) (by unfold vp_in; decide +kernel) (cw_r h0 (by decide +kernel)) ?_
      refine a_getN (v := .int 0) dX10_redexes_26 fn_10_171 (cw_l h0 (by decide)) (cw_s h0 (by decide) rfl) (cw_gi h0 rfl (by decide) (by first | decide +kernel | rfl)) ?_
      refine a_if_ne 35 dX10_redexes_29 (by decide) (fun c => absurd (by decide) c) (fun _ => ?_)
      refine a_bipush (v := (-5)) dX10_redexes_32 (by decide) ?_
      exact a_iret dX10_redexes_34 rfl ⟨by solve | rfl | (repeat (first | rw [if_pos (by assumption)] | rw [if_neg (by assumption)])) | simp_all, fm_of h0 (fun a k ha => by first | rfl | (repeat rw [up2_a _ _ _ _ (by omega)]))⟩
    · refine a_bipush (v := (-2)) dX10_redexes_17 (by decide) ?_
      exact a_iret dX10_redexes_19 rfl ⟨by solve | rfl | (repeat (first | rw [if_pos (by assumption)] | rw [if_neg (by assumption)])) | simp_all, fm_of h0 (fun a k ha => by first | rfl | (repeat rw [up2_a _ _ _ _ (by omega)]))⟩
set_option maxHeartbeats 4000000 in
set_option maxRecDepth 100000 in
theorem p_redexes_1 {X : Nat × (Nat → Int32)} {fr : Nat} {M : Mem} (w : Int32) (h0 : Cw 126 Lj134 fs42 gs31 M) : AM yX10_redexes cX10_redexes 3 (some .int) true (fr + 8) 0 0 X [.ref 0, .int 1, .int w] M (fun v M1 => v = some (.int (if w < 0 then -2 else if w ≤ 7 then -5 else -2)) ∧ Fm M1) := by
  refine AM.of false (by decide +kernel) (by intro h; cases h) (Nat.le_of_ble_eq_true rfl) ?_
  show AW X (RX10, cX10_redexes, 3, (some .int), false, true, fr + 8) 0 0 0 [(0, .ref 0), (1, .int 1), (2, .int w)] [] M _
  refine a_iload_n dX10_redexes_0 rfl rfl ?_
  refine a_callS (As := [.int 1]) (st := []) (bc := 0) (bs := 0) (mc := 0) (ms := 0) false dX10_redexes_1 mw_X10_noSlot rfl (Or.inl ⟨rfl, ml_X10_151⟩) sm_X10_noSlot rfl (Nat.le_of_ble_eq_true rfl) (k_noSlot (fr := fr + 7) 1) (fun v M1 hq => ?_)
  obtain ⟨rfl, hM1⟩ := hq
  rw [hM1]
  clear hM1 M1
  refine a_st (st2 := [.int 0]) (by decide +kernel) ?_
  refine a_if_ne 17 dX10_redexes_4 (by decide) (fun c => absurd (by decide) c) (fun _ => ?_)
  refine a_iload_n dX10_redexes_7 rfl rfl ?_
  refine a_if_lt 17 dX10_redexes_8 (by decide) (fun c1 => ?_) (fun c1 => ?_)
  · refine a_bipush (v := (-2)) dX10_redexes_17 (by decide) ?_
    exact a_iret dX10_redexes_19 rfl ⟨by solve | rfl | (repeat (first | rw [if_pos (by assumption)] | rw [if_neg (by assumption)])) | simp_all, fm_of h0 (fun a k ha => by first | rfl | (repeat rw [up2_a _ _ _ _ (by omega)]))⟩
  · refine a_iload_n dX10_redexes_11 rfl rfl ?_
    refine a_bipush (v := 7) dX10_redexes_12 (by decide) ?_
    refine a_icmp_le 20 dX10_redexes_14 (by decide) (fun c2 => ?_) (fun c2 => ?_)
    · refine a_aload_n dX10_redexes_20 rfl rfl ?_
      refine a_get (v := .ref 24) dX10_redexes_21 fl_10_38 (cw_l h0 (by decide)) (cw_s h0 (by decide) rfl) (cw_g h0 rfl (by decide +kernel)) ?_
      refine a_iload_n dX10_redexes_24 rfl rfl ?_
      refine a_aaload (r := 28) dX10_redexes_25 (cw_l h0 (by decide)) (cw_s h0 (by decide) rfl) (by unfold vp_in; decide +kernel) (cw_r h0 (by decide +kernel)) ?_
      refine a_getN (v := .int 0) dX10_redexes_26 fn_10_171 (cw_l h0 (by decide)) (cw_s h0 (by decide) rfl) (cw_gi h0 rfl (by decide) (by first | decide +kernel | rfl)) ?_
      refine a_if_ne 35 dX10_redexes_29 (by decide) (fun c => absurd (by decide) c) (fun _ => ?_)
      refine a_bipush (v := (-5)) dX10_redexes_32 (by decide) ?_
      exact a_iret dX10_redexes_34 rfl ⟨by solve | rfl | (repeat (first | rw [if_pos (by assumption)] | rw [if_neg (by assumption)])) | simp_all, fm_of h0 (fun a k ha => by first | rfl | (repeat rw [up2_a _ _ _ _ (by omega)]))⟩
    · refine a_bipush (v := (-2)) dX10_redexes_17 (by decide) ?_
      exact a_iret dX10_redexes_19 rfl ⟨by solve | rfl | (repeat (first | rw [if_pos (by assumption)] | rw [if_neg (by assumption)])) | simp_all, fm_of h0 (fun a k ha => by first | rfl | (repeat rw [up2_a _ _ _ _ (by omega)]))⟩
set_option maxHeartbeats 4000000 in
set_option maxRecDepth 100000 in
theorem p_redexes_2 {X : Nat × (Nat → Int32)} {fr : Nat} {M : Mem} (w : Int32) (h0 : Cw 126 Lj134 fs42 gs31 M) : AM yX10_redexes cX10_redexes 3 (some .int) true (fr + 8) 0 0 X [.ref 0, .int 2, .int w] M (fun v M1 => v = some (.int (if w < 0 then -2 else if w ≤ 7 then -5 else -2)) ∧ Fm M1) := by
  refine AM.of false (by decide +kernel) (by intro h; cases h) (Nat.le_of_ble_eq_true rfl) ?_
  show AW X (RX10, cX10_redexes, 3, (some .int), false, true, fr + 8) 0 0 0 [(0, .ref 0), (1, .int 2), (2, .int w)] [] M _
  refine a_iload_n dX10_redexes_0 rfl rfl ?_
  refine a_callS (As := [.int 2]) (st := []) (bc := 0) (bs := 0) (mc := 0) (ms := 0) false dX10_redexes_1 mw_X10_noSlot rfl (Or.inl ⟨rfl, ml_X10_151⟩) sm_X10_noSlot rfl (Nat.le_of_ble_eq_true rfl) (k_noSlot (fr := fr + 7) 2) (fun v M1 hq => ?_)
  obtain ⟨rfl, hM1⟩ := hq
  rw [hM1]
  clear hM1 M1
  refine a_st (st2 := [.int 0]) (by decide +kernel) ?_
  refine a_if_ne 17 dX10_redexes_4 (by decide) (fun c => absurd (by decide) c) (fun _ => ?_)
  refine a_iload_n dX10_redexes_7 rfl rfl ?_
  refine a_if_lt 17 dX10_redexes_8 (by decide) (fun c1 => ?_) (fun c1 => ?_)
  · refine a_bipush (v := (-2)) dX10_redexes_17 (by decide) ?_
    exact a_iret dX10_redexes_19 rfl ⟨by solve | rfl | (repeat (first | rw [if_pos (by assumption)] | rw [if_neg (by assumption)])) | simp_all, fm_of h0 (fun a k ha => by first | rfl | (repeat rw [up2_a _ _ _ _ (by omega)]))⟩
  · refine a_iload_n dX10_redexes_11 rfl rfl ?_
    refine a_bipush (v := 7) dX10_redexes_12 (by decide) ?_
    refine a_icmp_le 20 dX10_redexes_14 (by decide) (fun c2 => ?_) (fun c2 => ?_)
    · refine a_aload_n dX10_redexes_20 rfl rfl ?_
      refine a_get (v := .ref 24) dX10_redexes_21 fl_10_38 (cw_l h0 (by decide)) (cw_s h0 (by decide) rfl) (cw_g h0 rfl (by decide +kernel)) ?_
      refine a_iload_n dX10_redexes_24 rfl rfl ?_
      refine a_aaload (r := 31) dX10_redexes_25 (cw_l h0 (by decide)) (cw_s h0 (by decide) rfl) (by unfold vp_in; decide +kernel) (cw_r h0 (by decide +kernel)) ?_
      refine a_getN (v := .int 0) dX10_redexes_26 fn_10_171 (cw_l h0 (by decide)) (cw_s h0 (by decide) rfl) (cw_gi h0 rfl (by decide) (by first | decide +kernel | rfl)) ?_
      refine a_if_ne 35 dX10_redexes_29 (by decide) (fun c => absurd (by decide) c) (fun _ => ?_)
      refine a_bipush (v := (-5)) dX10_redexes_32 (by decide) ?_
      exact a_iret dX10_redexes_34 rfl ⟨by solve | rfl | (repeat (first | rw [if_pos (by assumption)] | rw [if_neg (by assumption)])) | simp_all, fm_of h0 (fun a k ha => by first | rfl | (repeat rw [up2_a _ _ _ _ (by omega)]))⟩
    · refine a_bipush (v := (-2)) dX10_redexes_17 (by decide) ?_
      exact a_iret dX10_redexes_19 rfl ⟨by solve | rfl | (repeat (first | rw [if_pos (by assumption)] | rw [if_neg (by assumption)])) | simp_all, fm_of h0 (fun a k ha => by first | rfl | (repeat rw [up2_a _ _ _ _ (by omega)]))⟩
set_option maxHeartbeats 4000000 in
set_option maxRecDepth 100000 in
theorem p_redexes_3 {X : Nat × (Nat → Int32)} {fr : Nat} {M : Mem} (w : Int32) (h0 : Cw 126 Lj134 fs42 gs31 M) : AM yX10_redexes cX10_redexes 3 (some .int) true (fr + 8) 0 0 X [.ref 0, .int 3, .int w] M (fun v M1 => v = some (.int (if w < 0 then -2 else if w ≤ 7 then -5 else -2)) ∧ Fm M1) := by
  refine AM.of false (by decide +kernel) (by intro h; cases h) (Nat.le_of_ble_eq_true rfl) ?_
  show AW X (RX10, cX10_redexes, 3, (some .int), false, true, fr + 8) 0 0 0 [(0, .ref 0), (1, .int 3), (2, .int w)] [] M _
  refine a_iload_n dX10_redexes_0 rfl rfl ?_
  refine a_callS (As := [.int 3]) (st := []) (bc := 0) (bs := 0) (mc := 0) (ms := 0) false dX10_redexes_1 mw_X10_noSlot rfl (Or.inl ⟨rfl, ml_X10_151⟩) sm_X10_noSlot rfl (Nat.le_of_ble_eq_true rfl) (k_noSlot (fr := fr + 7) 3) (fun v M1 hq => ?_)
  obtain ⟨rfl, hM1⟩ := hq
  rw [hM1]
  clear hM1 M1
  refine a_st (st2 := [.int 0]) (by decide +kernel) ?_
  refine a_if_ne 17 dX10_redexes_4 (by decide) (fun c => absurd (by decide) c) (fun _ => ?_)
  refine a_iload_n dX10_redexes_7 rfl rfl ?_
  refine a_if_lt 17 dX10_redexes_8 (by decide) (fun c1 => ?_) (fun c1 => ?_)
  · refine a_bipush (v := (-2)) dX10_redexes_17 (by decide) ?_
    exact a_iret dX10_redexes_19 rfl ⟨by solve | rfl | (repeat (first | rw [if_pos (by assumption)] | rw [if_neg (by assumption)])) | simp_all, fm_of h0 (fun a k ha => by first | rfl | (repeat rw [up2_a _ _ _ _ (by omega)]))⟩
  · refine a_iload_n dX10_redexes_11 rfl rfl ?_
    refine a_bipush (v := 7) dX10_redexes_12 (by decide) ?_
    refine a_icmp_le 20 dX10_redexes_14 (by decide) (fun c2 => ?_) (fun c2 => ?_)
    · refine a_aload_n dX10_redexes_20 rfl rfl ?_
      refine a_get (v := .ref 24) dX10_redexes_21 fl_10_38 (cw_l h0 (by decide)) (cw_s h0 (by decide) rfl) (cw_g h0 rfl (by decide +kernel)) ?_
      refine a_iload_n dX10_redexes_24 rfl rfl ?_
      refine a_aaload (r := 34) dX10_redexes_25 (cw_l h0 (by decide)) (cw_s h0 (by decide) rfl) (by unfold vp_in; decide +kernel) (cw_r h0 (by decide +kernel)) ?_
      refine a_getN (v := .int 0) dX10_redexes_26 fn_10_171 (cw_l h0 (by decide)) (cw_s h0 (by decide) rfl) (cw_gi h0 rfl (by decide) (by first | decide +kernel | rfl)) ?_
      refine a_if_ne 35 dX10_redexes_29 (by decide) (fun c => absurd (by decide) c) (fun _ => ?_)
      refine a_bipush (v := (-5)) dX10_redexes_32 (by decide) ?_
      exact a_iret dX10_redexes_34 rfl ⟨by solve | rfl | (repeat (first | rw [if_pos (by assumption)] | rw [if_neg (by assumption)])) | simp_all, fm_of h0 (fun a k ha => by first | rfl | (repeat rw [up2_a _ _ _ _ (by omega)]))⟩
    · refine a_bipush (v := (-2)) dX10_redexes_17 (by decide) ?_
      exact a_iret dX10_redexes_19 rfl ⟨by solve | rfl | (repeat (first | rw [if_pos (by assumption)] | rw [if_neg (by assumption)])) | simp_all, fm_of h0 (fun a k ha => by first | rfl | (repeat rw [up2_a _ _ _ _ (by omega)]))⟩
set_option maxHeartbeats 4000000 in
set_option maxRecDepth 100000 in
theorem z46_X10_numberLines {X : Nat × (Nat → Int32)} {fr : Nat} {M : Mem} (x : Int32) (k : Int32) (w : Int32) (hb_x : x < 0 ∨ 4 ≤ x) (h0 : Cw 126 Lj134 fs42 gs31 M) : AM yX10_numberLines cX10_numberLines 2 (some .int) true (fr + 7) 0 0 X [.ref 0, .int x] M (fun v M1 => v = some (.int (-2)) ∧ Cw 126 Lj134 fs42 gs31 M1) := by
  refine AM.of false (by decide +kernel) (by intro h; cases h) (Nat.le_of_ble_eq_true rfl) ?_
  show AW X (RX10, cX10_numberLines, 2, (some .int), false, true, fr + 7) 0 0 0 [(0, .ref 0), (1, .int x)] [] M _
  refine a_iload_n dX10_numberLines_0 rfl rfl ?_
  refine a_callS (As := [.int x]) (st := []) (bc := 0) (bs := 0) (mc := 0) (ms := 0) false dX10_numberLines_1 mw_X10_noSlot rfl (Or.inl ⟨rfl, ml_X10_151⟩) sm_X10_noSlot rfl (Nat.le_of_ble_eq_true rfl) (k_noSlot (fr := fr + 6) x) (fun v M1 hq => ?_)
  obtain ⟨rfl, hM1⟩ := hq
  rw [hM1]
  clear hM1 M1
  refine a_st (st2 := [.int 1]) (by rw [if_pos hb_x]; rfl) ?_
  refine a_if_eq 10 dX10_numberLines_4 (by decide) (fun c => absurd c (by decide)) (fun _ => ?_)
  refine a_bipush (v := (-2)) dX10_numberLines_7 (by decide) ?_
  exact a_iret dX10_numberLines_9 rfl ⟨rfl, h0⟩
set_option maxHeartbeats 4000000 in
set_option maxRecDepth 100000 in
theorem p_line_b {X : Nat × (Nat → Int32)} {fr : Nat} {M : Mem} (x : Int32) (k : Int32) (w : Int32) (hb_x : x < 0 ∨ 4 ≤ x) (h0 : Cw 126 Lj134 fs42 gs31 M) : AM yX10_line cX10_line 5 (some .int) true (fr + 8) 0 0 X [.ref 0, .int x, .int k, .int w] M (fun v M1 => v = some (.int (-2)) ∧ Fm M1) := by
  refine AM.of false (by decide +kernel) (by intro h; cases h) (Nat.le_of_ble_eq_true rfl) ?_
  show AW X (RX10, cX10_line, 5, (some .int), false, true, fr + 8) 0 0 0 [(0, .ref 0), (1, .int x), (2, .int k), (3, .int w)] [] M _
  refine a_aload_n dX10_line_0 rfl rfl ?_
  refine a_iload_n dX10_line_1 rfl rfl ?_
  refine a_callV (As := [.int x]) (st := []) (a := 0) (ci := 10) (bc := 0) (bs := 0) (mc := 0) (ms := 0) false dX10_line_2 mw_X10_numberLines rfl (Or.inl ⟨rfl, ml_X10_284⟩) im_X10_numberLines se_X10_numberLines (by decide) (cw_l h0 (by decide)) (cw_s h0 (by decide) rfl) rfl (Nat.le_of_ble_eq_true rfl) (z46_X10_numberLines (fr := fr) x k w hb_x h0) (fun v M1 hq => ?_)
  obtain ⟨rfl, h1⟩ := hq
  show AW X _ 0 0 5 _ [.int (-2)] _ _
  refine a_istore dX10_line_5 (Nat.le_of_ble_eq_true rfl) (lv2 := [(4, .int (-2)), (0, .ref 0), (1, .int x), (2, .int k), (3, .int w)]) rfl ?_
  refine a_iload dX10_line_7 rfl ?_
  refine a_if_eq 15 dX10_line_9 (by decide) (fun c => absurd c (by decide)) (fun _ => ?_)
  refine a_iload dX10_line_12 rfl ?_
  exact a_iret dX10_line_14 rfl ⟨by first | rfl | decide +kernel | simp [*], fm_of h1 (fun a k ha => by first | rfl | (repeat rw [up2_a _ _ _ _ (by omega)]))⟩
set_option maxHeartbeats 4000000 in
set_option maxRecDepth 100000 in
theorem z47_X10_numberLines {X : Nat × (Nat → Int32)} {fr : Nat} {M : Mem} (k : Int32) (w : Int32) (h0 : Cw 126 Lj134 fs42 gs31 M) : AM yX10_numberLines cX10_numberLines 2 (some .int) true (fr + 7) 0 0 X [.ref 0, .int 0] M (fun v M1 => v = some (.int (-5)) ∧ Cw 126 Lj134 fs42 gs31 M1) := by
  refine AM.of false (by decide +kernel) (by intro h; cases h) (Nat.le_of_ble_eq_true rfl) ?_
  show AW X (RX10, cX10_numberLines, 2, (some .int), false, true, fr + 7) 0 0 0 [(0, .ref 0), (1, .int 0)] [] M _
  refine a_iload_n dX10_numberLines_0 rfl rfl ?_
  refine a_callS (As := [.int 0]) (st := []) (bc := 0) (bs := 0) (mc := 0) (ms := 0) false dX10_numberLines_1 mw_X10_noSlot rfl (Or.inl ⟨rfl, ml_X10_151⟩) sm_X10_noSlot rfl (Nat.le_of_ble_eq_true rfl) (k_noSlot (fr := fr + 6) 0) (fun v M1 hq => ?_)
  obtain ⟨rfl, hM1⟩ := hq
  rw [hM1]
  clear hM1 M1
  refine a_st (st2 := [.int 0]) (by decide +kernel) ?_
  refine a_if_eq 10 dX10_numberLines_4 (by decide) (fun _ => ?_) (fun c => absurd (by decide) c)
  refine a_aload_n dX10_numberLines_10 rfl rfl ?_
  refine a_get (v := .ref 24) dX10_numberLines_11 fl_10_38 (cw_l h0 (by decide)) (cw_s h0 (by decide) rfl) (cw_g h0 rfl (by decide +kernel)) ?_
  refine a_iload_n dX10_numberLines_14 rfl rfl ?_
  refine a_aaload (r := 25) dX10_numberLines_15 (cw_l h0 (by decide)) (cw_s h0 (by decide) rfl) (by unfold vp_in; decide +kernel) (cw_r h0 (by decide +kernel)) ?_
  refine a_getN (v := .int 0) dX10_numberLines_16 fn_10_171 (cw_l h0 (by decide)) (cw_s h0 (by decide) rfl) (cw_gi h0 rfl (by decide) (by first | decide +kernel | rfl)) ?_
  refine a_if_ne 25 dX10_numberLines_19 (by decide) (fun c => absurd (by decide) c) (fun _ => ?_)
  refine a_bipush (v := (-5)) dX10_numberLines_22 (by decide) ?_
  exact a_iret dX10_numberLines_24 rfl ⟨rfl, h0⟩
set_option maxHeartbeats 4000000 in
set_option maxRecDepth 100000 in
theorem p_line_0 {X : Nat × (Nat → Int32)} {fr : Nat} {M : Mem} (k : Int32) (w : Int32) (h0 : Cw 126 Lj134 fs42 gs31 M) : AM yX10_line cX10_line 5 (some .int) true (fr + 8) 0 0 X [.ref 0, .int 0, .int k, .int w] M (fun v M1 => v = some (.int (-5)) ∧ Fm M1) := by
  refine AM.of false (by decide +kernel) (by intro h; cases h) (Nat.le_of_ble_eq_true rfl) ?_
  show AW X (RX10, cX10_line, 5, (some .int), false, true, fr + 8) 0 0 0 [(0, .ref 0), (1, .int 0), (2, .int k), (3, .int w)] [] M _
  refine a_aload_n dX10_line_0 rfl rfl ?_
  refine a_iload_n dX10_line_1 rfl rfl ?_
  refine a_callV (As := [.int 0]) (st := []) (a := 0) (ci := 10) (bc := 0) (bs := 0) (mc := 0) (ms := 0) false dX10_line_2 mw_X10_numberLines rfl (Or.inl ⟨rfl, ml_X10_284⟩) im_X10_numberLines se_X10_numberLines (by decide) (cw_l h0 (by decide)) (cw_s h0 (by decide) rfl) rfl (Nat.le_of_ble_eq_true rfl) (z47_X10_numberLines (fr := fr) k w h0) (fun v M1 hq => ?_)
  obtain ⟨rfl, h1⟩ := hq
  show AW X _ 0 0 5 _ [.int (-5)] _ _
  refine a_istore dX10_line_5 (Nat.le_of_ble_eq_true rfl) (lv2 := [(4, .int (-5)), (0, .ref 0), (1, .int 0), (2, .int k), (3, .int w)]) rfl ?_
  refine a_iload dX10_line_7 rfl ?_
  refine a_if_eq 15 dX10_line_9 (by decide) (fun c => absurd c (by decide)) (fun _ => ?_)
  refine a_iload dX10_line_12 rfl ?_
  exact a_iret dX10_line_14 rfl ⟨by solve | rfl | (repeat (first | rw [if_pos (by assumption)] | rw [if_neg (by assumption)])) | simp_all, fm_of h1 (fun a k ha => by first | rfl | (repeat rw [up2_a _ _ _ _ (by omega)]))⟩
set_option maxHeartbeats 4000000 in
set_option maxRecDepth 100000 in
theorem z48_X10_numberLines {X : Nat × (Nat → Int32)} {fr : Nat} {M : Mem} (k : Int32) (w : Int32) (h0 : Cw 126 Lj134 fs42 gs31 M) : AM yX10_numberLines cX10_numberLines 2 (some .int) true (fr + 7) 0 0 X [.ref 0, .int 1] M (fun v M1 => v = some (.int (-5)) ∧ Cw 126 Lj134 fs42 gs31 M1) := by
  refine AM.of false (by decide +kernel) (by intro h; cases h) (Nat.le_of_ble_eq_true rfl) ?_
  show AW X (RX10, cX10_numberLines, 2, (some .int), false, true, fr + 7) 0 0 0 [(0, .ref 0), (1, .int 1)] [] M _
  refine a_iload_n dX10_numberLines_0 rfl rfl ?_
  refine a_callS (As := [.int 1]) (st := []) (bc := 0) (bs := 0) (mc := 0) (ms := 0) false dX10_numberLines_1 mw_X10_noSlot rfl (Or.inl ⟨rfl, ml_X10_151⟩) sm_X10_noSlot rfl (Nat.le_of_ble_eq_true rfl) (k_noSlot (fr := fr + 6) 1) (fun v M1 hq => ?_)
  obtain ⟨rfl, hM1⟩ := hq
  rw [hM1]
  clear hM1 M1
  refine a_st (st2 := [.int 0]) (by decide +kernel) ?_
  refine a_if_eq 10 dX10_numberLines_4 (by decide) (fun _ => ?_) (fun c => absurd (by decide) c)
  refine a_aload_n dX10_numberLines_10 rfl rfl ?_
  refine a_get (v := .ref 24) dX10_numberLines_11 fl_10_38 (cw_l h0 (by decide)) (cw_s h0 (by decide) rfl) (cw_g h0 rfl (by decide +kernel)) ?_
  refine a_iload_n dX10_numberLines_14 rfl rfl ?_
  refine a_aaload (r := 28) dX10_numberLines_15 (cw_l h0 (by decide)) (cw_s h0 (by decide) rfl) (by unfold vp_in; decide +kernel) (cw_r h0 (by decide +kernel)) ?_
  refine a_getN (v := .int 0) dX10_numberLines_16 fn_10_171 (cw_l h0 (by decide)) (cw_s h0 (by decide) rfl) (cw_gi h0 rfl (by decide) (by first | decide +kernel | rfl)) ?_
  refine a_if_ne 25 dX10_numberLines_19 (by decide) (fun c => absurd (by decide) c) (fun _ => ?_)
  refine a_bipush (v := (-5)) dX10_numberLines_22 (by decide) ?_
  exact a_iret dX10_numberLines_24 rfl ⟨rfl, h0⟩
set_option maxHeartbeats 4000000 in
set_option maxRecDepth 100000 in
theorem p_line_1 {X : Nat × (Nat → Int32)} {fr : Nat} {M : Mem} (k : Int32) (w : Int32) (h0 : Cw 126 Lj134 fs42 gs31 M) : AM yX10_line cX10_line 5 (some .int) true (fr + 8) 0 0 X [.ref 0, .int 1, .int k, .int w] M (fun v M1 => v = some (.int (-5)) ∧ Fm M1) := by
  refine AM.of false (by decide +kernel) (by intro h; cases h) (Nat.le_of_ble_eq_true rfl) ?_
  show AW X (RX10, cX10_line, 5, (some .int), false, true, fr + 8) 0 0 0 [(0, .ref 0), (1, .int 1), (2, .int k), (3, .int w)] [] M _
  refine a_aload_n dX10_line_0 rfl rfl ?_
  refine a_iload_n dX10_line_1 rfl rfl ?_
  refine a_callV (As := [.int 1]) (st := []) (a := 0) (ci := 10) (bc := 0) (bs := 0) (mc := 0) (ms := 0) false dX10_line_2 mw_X10_numberLines rfl (Or.inl ⟨rfl, ml_X10_284⟩) im_X10_numberLines se_X10_numberLines (by decide) (cw_l h0 (by decide)) (cw_s h0 (by decide) rfl) rfl (Nat.le_of_ble_eq_true rfl) (z48_X10_numberLines (fr := fr) k w h0) (fun v M1 hq => ?_)
  obtain ⟨rfl, h1⟩ := hq
  show AW X _ 0 0 5 _ [.int (-5)] _ _
  refine a_istore dX10_line_5 (Nat.le_of_ble_eq_true rfl) (lv2 := [(4, .int (-5)), (0, .ref 0), (1, .int 1), (2, .int k), (3, .int w)]) rfl ?_
  refine a_iload dX10_line_7 rfl ?_
  refine a_if_eq 15 dX10_line_9 (by decide) (fun c => absurd c (by decide)) (fun _ => ?_)
  refine a_iload dX10_line_12 rfl ?_
  exact a_iret dX10_line_14 rfl ⟨by solve | rfl | (repeat (first | rw [if_pos (by assumption)] | rw [if_neg (by assumption)])) | simp_all, fm_of h1 (fun a k ha => by first | rfl | (repeat rw [up2_a _ _ _ _ (by omega)]))⟩
set_option maxHeartbeats 4000000 in
set_option maxRecDepth 100000 in
theorem z49_X10_numberLines {X : Nat × (Nat → Int32)} {fr : Nat} {M : Mem} (k : Int32) (w : Int32) (h0 : Cw 126 Lj134 fs42 gs31 M) : AM yX10_numberLines cX10_numberLines 2 (some .int) true (fr + 7) 0 0 X [.ref 0, .int 2] M (fun v M1 => v = some (.int (-5)) ∧ Cw 126 Lj134 fs42 gs31 M1) := by
  refine AM.of false (by decide +kernel) (by intro h; cases h) (Nat.le_of_ble_eq_true rfl) ?_
  show AW X (RX10, cX10_numberLines, 2, (some .int), false, true, fr + 7) 0 0 0 [(0, .ref 0), (1, .int 2)] [] M _
  refine a_iload_n dX10_numberLines_0 rfl rfl ?_
  refine a_callS (As := [.int 2]) (st := []) (bc := 0) (bs := 0) (mc := 0) (ms := 0) false dX10_numberLines_1 mw_X10_noSlot rfl (Or.inl ⟨rfl, ml_X10_151⟩) sm_X10_noSlot rfl (Nat.le_of_ble_eq_true rfl) (k_noSlot (fr := fr + 6) 2) (fun v M1 hq => ?_)
  obtain ⟨rfl, hM1⟩ := hq
  rw [hM1]
  clear hM1 M1
  refine a_st (st2 := [.int 0]) (by decide +kernel) ?_
  refine a_if_eq 10 dX10_numberLines_4 (by decide) (fun _ => ?_) (fun c => absurd (by decide) c)
  refine a_aload_n dX10_numberLines_10 rfl rfl ?_
  refine a_get (v := .ref 24) dX10_numberLines_11 fl_10_38 (cw_l h0 (by decide)) (cw_s h0 (by decide) rfl) (cw_g h0 rfl (by decide +kernel)) ?_
  refine a_iload_n dX10_numberLines_14 rfl rfl ?_
  refine a_aaload (r := 31) dX10_numberLines_15 (cw_l h0 (by decide)) (cw_s h0 (by decide) rfl) (by unfold vp_in; decide +kernel) (cw_r h0 (by decide +kernel)) ?_
  refine a_getN (v := .int 0) dX10_numberLines_16 fn_10_171 (cw_l h0 (by decide)) (cw_s h0 (by decide) rfl) (cw_gi h0 rfl (by decide) (by first | decide +kernel | rfl)) ?_
  refine a_if_ne 25 dX10_numberLines_19 (by decide) (fun c => absurd (by decide) c) (fun _ => ?_)
  refine a_bipush (v := (-5)) dX10_numberLines_22 (by decide) ?_
  exact a_iret dX10_numberLines_24 rfl ⟨rfl, h0⟩
set_option maxHeartbeats 4000000 in
set_option maxRecDepth 100000 in
theorem p_line_2 {X : Nat × (Nat → Int32)} {fr : Nat} {M : Mem} (k : Int32) (w : Int32) (h0 : Cw 126 Lj134 fs42 gs31 M) : AM yX10_line cX10_line 5 (some .int) true (fr + 8) 0 0 X [.ref 0, .int 2, .int k, .int w] M (fun v M1 => v = some (.int (-5)) ∧ Fm M1) := by
  refine AM.of false (by decide +kernel) (by intro h; cases h) (Nat.le_of_ble_eq_true rfl) ?_
  show AW X (RX10, cX10_line, 5, (some .int), false, true, fr + 8) 0 0 0 [(0, .ref 0), (1, .int 2), (2, .int k), (3, .int w)] [] M _
  refine a_aload_n dX10_line_0 rfl rfl ?_
  refine a_iload_n dX10_line_1 rfl rfl ?_
  refine a_callV (As := [.int 2]) (st := []) (a := 0) (ci := 10) (bc := 0) (bs := 0) (mc := 0) (ms := 0) false dX10_line_2 mw_X10_numberLines rfl (Or.inl ⟨rfl, ml_X10_284⟩) im_X10_numberLines se_X10_numberLines (by decide) (cw_l h0 (by decide)) (cw_s h0 (by decide) rfl) rfl (Nat.le_of_ble_eq_true rfl) (z49_X10_numberLines (fr := fr) k w h0) (fun v M1 hq => ?_)
  obtain ⟨rfl, h1⟩ := hq
  show AW X _ 0 0 5 _ [.int (-5)] _ _
  refine a_istore dX10_line_5 (Nat.le_of_ble_eq_true rfl) (lv2 := [(4, .int (-5)), (0, .ref 0), (1, .int 2), (2, .int k), (3, .int w)]) rfl ?_
  refine a_iload dX10_line_7 rfl ?_
  refine a_if_eq 15 dX10_line_9 (by decide) (fun c => absurd c (by decide)) (fun _ => ?_)
  refine a_iload dX10_line_12 rfl ?_
  exact a_iret dX10_line_14 rfl ⟨by solve | rfl | (repeat (first | rw [if_pos (by assumption)] | rw [if_neg (by assumption)])) | simp_all, fm_of h1 (fun a k ha => by first | rfl | (repeat rw [up2_a _ _ _ _ (by omega)]))⟩
set_option maxHeartbeats 4000000 in
set_option maxRecDepth 100000 in
theorem z50_X10_numberLines {X : Nat × (Nat → Int32)} {fr : Nat} {M : Mem} (k : Int32) (w : Int32) (h0 : Cw 126 Lj134 fs42 gs31 M) : AM yX10_numberLines cX10_numberLines 2 (some .int) true (fr + 7) 0 0 X [.ref 0, .int 3] M (fun v M1 => v = some (.int (-5)) ∧ Cw 126 Lj134 fs42 gs31 M1) := by
  refine AM.of false (by decide +kernel) (by intro h; cases h) (Nat.le_of_ble_eq_true rfl) ?_
  show AW X (RX10, cX10_numberLines, 2, (some .int), false, true, fr + 7) 0 0 0 [(0, .ref 0), (1, .int 3)] [] M _
  refine a_iload_n dX10_numberLines_0 rfl rfl ?_
  refine a_callS (As := [.int 3]) (st := []) (bc := 0) (bs := 0) (mc := 0) (ms := 0) false dX10_numberLines_1 mw_X10_noSlot rfl (Or.inl ⟨rfl, ml_X10_151⟩) sm_X10_noSlot rfl (Nat.le_of_ble_eq_true rfl) (k_noSlot (fr := fr + 6) 3) (fun v M1 hq => ?_)
  obtain ⟨rfl, hM1⟩ := hq
  rw [hM1]
  clear hM1 M1
  refine a_st (st2 := [.int 0]) (by decide +kernel) ?_
  refine a_if_eq 10 dX10_numberLines_4 (by decide) (fun _ => ?_) (fun c => absurd (by decide) c)
  refine a_aload_n dX10_numberLines_10 rfl rfl ?_
  refine a_get (v := .ref 24) dX10_numberLines_11 fl_10_38 (cw_l h0 (by decide)) (cw_s h0 (by decide) rfl) (cw_g h0 rfl (by decide +kernel)) ?_
  refine a_iload_n dX10_numberLines_14 rfl rfl ?_
  refine a_aaload (r := 34) dX10_numberLines_15 (cw_l h0 (by decide)) (cw_s h0 (by decide) rfl) (by unfold vp_in; decide +kernel) (cw_r h0 (by decide +kernel)) ?_
  refine a_getN (v := .int 0) dX10_numberLines_16 fn_10_171 (cw_l h0 (by decide)) (cw_s h0 (by decide) rfl) (cw_gi h0 rfl (by decide) (by first | decide +kernel | rfl)) ?_
  refine a_if_ne 25 dX10_numberLines_19 (by decide) (fun c => absurd (by decide) c) (fun _ => ?_)
  refine a_bipush (v := (-5)) dX10_numberLines_22 (by decide) ?_
  exact a_iret dX10_numberLines_24 rfl ⟨rfl, h0⟩
set_option maxHeartbeats 4000000 in
set_option maxRecDepth 100000 in
theorem p_line_3 {X : Nat × (Nat → Int32)} {fr : Nat} {M : Mem} (k : Int32) (w : Int32) (h0 : Cw 126 Lj134 fs42 gs31 M) : AM yX10_line cX10_line 5 (some .int) true (fr + 8) 0 0 X [.ref 0, .int 3, .int k, .int w] M (fun v M1 => v = some (.int (-5)) ∧ Fm M1) := by
  refine AM.of false (by decide +kernel) (by intro h; cases h) (Nat.le_of_ble_eq_true rfl) ?_
  show AW X (RX10, cX10_line, 5, (some .int), false, true, fr + 8) 0 0 0 [(0, .ref 0), (1, .int 3), (2, .int k), (3, .int w)] [] M _
  refine a_aload_n dX10_line_0 rfl rfl ?_
  refine a_iload_n dX10_line_1 rfl rfl ?_
  refine a_callV (As := [.int 3]) (st := []) (a := 0) (ci := 10) (bc := 0) (bs := 0) (mc := 0) (ms := 0) false dX10_line_2 mw_X10_numberLines rfl (Or.inl ⟨rfl, ml_X10_284⟩) im_X10_numberLines se_X10_numberLines (by decide) (cw_l h0 (by decide)) (cw_s h0 (by decide) rfl) rfl (Nat.le_of_ble_eq_true rfl) (z50_X10_numberLines (fr := fr) k w h0) (fun v M1 hq => ?_)
  obtain ⟨rfl, h1⟩ := hq
  show AW X _ 0 0 5 _ [.int (-5)] _ _
  refine a_istore dX10_line_5 (Nat.le_of_ble_eq_true rfl) (lv2 := [(4, .int (-5)), (0, .ref 0), (1, .int 3), (2, .int k), (3, .int w)]) rfl ?_
  refine a_iload dX10_line_7 rfl ?_
  refine a_if_eq 15 dX10_line_9 (by decide) (fun c => absurd c (by decide)) (fun _ => ?_)
  refine a_iload dX10_line_12 rfl ?_
  exact a_iret dX10_line_14 rfl ⟨by solve | rfl | (repeat (first | rw [if_pos (by assumption)] | rw [if_neg (by assumption)])) | simp_all, fm_of h1 (fun a k ha => by first | rfl | (repeat rw [up2_a _ _ _ _ (by omega)]))⟩
set_option maxHeartbeats 4000000 in
set_option maxRecDepth 100000 in
theorem z51_X10_numberLines {X : Nat × (Nat → Int32)} {fr : Nat} {M : Mem} (x : Int32) (k : Int32) (i : Int32) (hb_x : x < 0 ∨ 4 ≤ x) (h0 : Cw 126 Lj134 fs42 gs31 M) : AM yX10_numberLines cX10_numberLines 2 (some .int) true (fr + 7) 0 0 X [.ref 0, .int x] M (fun v M1 => v = some (.int (-2)) ∧ Cw 126 Lj134 fs42 gs31 M1) := by
  refine AM.of false (by decide +kernel) (by intro h; cases h) (Nat.le_of_ble_eq_true rfl) ?_
  show AW X (RX10, cX10_numberLines, 2, (some .int), false, true, fr + 7) 0 0 0 [(0, .ref 0), (1, .int x)] [] M _
  refine a_iload_n dX10_numberLines_0 rfl rfl ?_
  refine a_callS (As := [.int x]) (st := []) (bc := 0) (bs := 0) (mc := 0) (ms := 0) false dX10_numberLines_1 mw_X10_noSlot rfl (Or.inl ⟨rfl, ml_X10_151⟩) sm_X10_noSlot rfl (Nat.le_of_ble_eq_true rfl) (k_noSlot (fr := fr + 6) x) (fun v M1 hq => ?_)
  obtain ⟨rfl, hM1⟩ := hq
  rw [hM1]
  clear hM1 M1
  refine a_st (st2 := [.int 1]) (by rw [if_pos hb_x]; rfl) ?_
  refine a_if_eq 10 dX10_numberLines_4 (by decide) (fun c => absurd c (by decide)) (fun _ => ?_)
  refine a_bipush (v := (-2)) dX10_numberLines_7 (by decide) ?_
  exact a_iret dX10_numberLines_9 rfl ⟨rfl, h0⟩
set_option maxHeartbeats 4000000 in
set_option maxRecDepth 100000 in
theorem p_lineByte_b {X : Nat × (Nat → Int32)} {fr : Nat} {M : Mem} (x : Int32) (k : Int32) (i : Int32) (hb_x : x < 0 ∨ 4 ≤ x) (h0 : Cw 126 Lj134 fs42 gs31 M) : AM yX10_lineByte cX10_lineByte 5 (some .int) true (fr + 8) 0 0 X [.ref 0, .int x, .int k, .int i] M (fun v M1 => v = some (.int (-2)) ∧ Fm M1) := by
  refine AM.of false (by decide +kernel) (by intro h; cases h) (Nat.le_of_ble_eq_true rfl) ?_
  show AW X (RX10, cX10_lineByte, 5, (some .int), false, true, fr + 8) 0 0 0 [(0, .ref 0), (1, .int x), (2, .int k), (3, .int i)] [] M _
  refine a_aload_n dX10_lineByte_0 rfl rfl ?_
  refine a_iload_n dX10_lineByte_1 rfl rfl ?_
  refine a_callV (As := [.int x]) (st := []) (a := 0) (ci := 10) (bc := 0) (bs := 0) (mc := 0) (ms := 0) false dX10_lineByte_2 mw_X10_numberLines rfl (Or.inl ⟨rfl, ml_X10_284⟩) im_X10_numberLines se_X10_numberLines (by decide) (cw_l h0 (by decide)) (cw_s h0 (by decide) rfl) rfl (Nat.le_of_ble_eq_true rfl) (z51_X10_numberLines (fr := fr) x k i hb_x h0) (fun v M1 hq => ?_)
  obtain ⟨rfl, h1⟩ := hq
  show AW X _ 0 0 5 _ [.int (-2)] _ _
  refine a_istore dX10_lineByte_5 (Nat.le_of_ble_eq_true rfl) (lv2 := [(4, .int (-2)), (0, .ref 0), (1, .int x), (2, .int k), (3, .int i)]) rfl ?_
  refine a_iload dX10_lineByte_7 rfl ?_
  refine a_if_eq 15 dX10_lineByte_9 (by decide) (fun c => absurd c (by decide)) (fun _ => ?_)
  refine a_iload dX10_lineByte_12 rfl ?_
  exact a_iret dX10_lineByte_14 rfl ⟨by first | rfl | decide +kernel | simp [*], fm_of h1 (fun a k ha => by first | rfl | (repeat rw [up2_a _ _ _ _ (by omega)]))⟩
set_option maxHeartbeats 4000000 in
set_option maxRecDepth 100000 in
theorem z52_X10_numberLines {X : Nat × (Nat → Int32)} {fr : Nat} {M : Mem} (k : Int32) (i : Int32) (h0 : Cw 126 Lj134 fs42 gs31 M) : AM yX10_numberLines cX10_numberLines 2 (some .int) true (fr + 7) 0 0 X [.ref 0, .int 0] M (fun v M1 => v = some (.int (-5)) ∧ Cw 126 Lj134 fs42 gs31 M1) := by
  refine AM.of false (by decide +kernel) (by intro h; cases h) (Nat.le_of_ble_eq_true rfl) ?_
  show AW X (RX10, cX10_numberLines, 2, (some .int), false, true, fr + 7) 0 0 0 [(0, .ref 0), (1, .int 0)] [] M _
  refine a_iload_n dX10_numberLines_0 rfl rfl ?_
  refine a_callS (As := [.int 0]) (st := []) (bc := 0) (bs := 0) (mc := 0) (ms := 0) false dX10_numberLines_1 mw_X10_noSlot rfl (Or.inl ⟨rfl, ml_X10_151⟩) sm_X10_noSlot rfl (Nat.le_of_ble_eq_true rfl) (k_noSlot (fr := fr + 6) 0) (fun v M1 hq => ?_)
  obtain ⟨rfl, hM1⟩ := hq
  rw [hM1]
  clear hM1 M1
  refine a_st (st2 := [.int 0]) (by decide +kernel) ?_
  refine a_if_eq 10 dX10_numberLines_4 (by decide) (fun _ => ?_) (fun c => absurd (by decide) c)
  refine a_aload_n dX10_numberLines_10 rfl rfl ?_
  refine a_get (v := .ref 24) dX10_numberLines_11 fl_10_38 (cw_l h0 (by decide)) (cw_s h0 (by decide) rfl) (cw_g h0 rfl (by decide +kernel)) ?_
  refine a_iload_n dX10_numberLines_14 rfl rfl ?_
  refine a_aaload (r := 25) dX10_numberLines_15 (cw_l h0 (by decide)) (cw_s h0 (by decide) rfl) (by unfold vp_in; decide +kernel) (cw_r h0 (by decide +kernel)) ?_
  refine a_getN (v := .int 0) dX10_numberLines_16 fn_10_171 (cw_l h0 (by decide)) (cw_s h0 (by decide) rfl) (cw_gi h0 rfl (by decide) (by first | decide +kernel | rfl)) ?_
  refine a_if_ne 25 dX10_numberLines_19 (by decide) (fun c => absurd (by decide) c) (fun _ => ?_)
  refine a_bipush (v := (-5)) dX10_numberLines_22 (by decide) ?_
  exact a_iret dX10_numberLines_24 rfl ⟨rfl, h0⟩
set_option maxHeartbeats 4000000 in
set_option maxRecDepth 100000 in
theorem p_lineByte_0 {X : Nat × (Nat → Int32)} {fr : Nat} {M : Mem} (k : Int32) (i : Int32) (h0 : Cw 126 Lj134 fs42 gs31 M) : AM yX10_lineByte cX10_lineByte 5 (some .int) true (fr + 8) 0 0 X [.ref 0, .int 0, .int k, .int i] M (fun v M1 => v = some (.int (-5)) ∧ Fm M1) := by
  refine AM.of false (by decide +kernel) (by intro h; cases h) (Nat.le_of_ble_eq_true rfl) ?_
  show AW X (RX10, cX10_lineByte, 5, (some .int), false, true, fr + 8) 0 0 0 [(0, .ref 0), (1, .int 0), (2, .int k), (3, .int i)] [] M _
  refine a_aload_n dX10_lineByte_0 rfl rfl ?_
  refine a_iload_n dX10_lineByte_1 rfl rfl ?_
  refine a_callV (As := [.int 0]) (st := []) (a := 0) (ci := 10) (bc := 0) (bs := 0) (mc := 0) (ms := 0) false dX10_lineByte_2 mw_X10_numberLines rfl (Or.inl ⟨rfl, ml_X10_284⟩) im_X10_numberLines se_X10_numberLines (by decide) (cw_l h0 (by decide)) (cw_s h0 (by decide) rfl) rfl (Nat.le_of_ble_eq_true rfl) (z52_X10_numberLines (fr := fr) k i h0) (fun v M1 hq => ?_)
  obtain ⟨rfl, h1⟩ := hq
  show AW X _ 0 0 5 _ [.int (-5)] _ _
  refine a_istore dX10_lineByte_5 (Nat.le_of_ble_eq_true rfl) (lv2 := [(4, .int (-5)), (0, .ref 0), (1, .int 0), (2, .int k), (3, .int i)]) rfl ?_
  refine a_iload dX10_lineByte_7 rfl ?_
  refine a_if_eq 15 dX10_lineByte_9 (by decide) (fun c => absurd c (by decide)) (fun _ => ?_)
  refine a_iload dX10_lineByte_12 rfl ?_
  exact a_iret dX10_lineByte_14 rfl ⟨by solve | rfl | (repeat (first | rw [if_pos (by assumption)] | rw [if_neg (by assumption)])) | simp_all, fm_of h1 (fun a k ha => by first | rfl | (repeat rw [up2_a _ _ _ _ (by omega)]))⟩
set_option maxHeartbeats 4000000 in
set_option maxRecDepth 100000 in
theorem z53_X10_numberLines {X : Nat × (Nat → Int32)} {fr : Nat} {M : Mem} (k : Int32) (i : Int32) (h0 : Cw 126 Lj134 fs42 gs31 M) : AM yX10_numberLines cX10_numberLines 2 (some .int) true (fr + 7) 0 0 X [.ref 0, .int 1] M (fun v M1 => v = some (.int (-5)) ∧ Cw 126 Lj134 fs42 gs31 M1) := by
  refine AM.of false (by decide +kernel) (by intro h; cases h) (Nat.le_of_ble_eq_true rfl) ?_
  show AW X (RX10, cX10_numberLines, 2, (some .int), false, true, fr + 7) 0 0 0 [(0, .ref 0), (1, .int 1)] [] M _
  refine a_iload_n dX10_numberLines_0 rfl rfl ?_
  refine a_callS (As := [.int 1]) (st := []) (bc := 0) (bs := 0) (mc := 0) (ms := 0) false dX10_numberLines_1 mw_X10_noSlot rfl (Or.inl ⟨rfl, ml_X10_151⟩) sm_X10_noSlot rfl (Nat.le_of_ble_eq_true rfl) (k_noSlot (fr := fr + 6) 1) (fun v M1 hq => ?_)
  obtain ⟨rfl, hM1⟩ := hq
  rw [hM1]
  clear hM1 M1
  refine a_st (st2 := [.int 0]) (by decide +kernel) ?_
  refine a_if_eq 10 dX10_numberLines_4 (by decide) (fun _ => ?_) (fun c => absurd (by decide) c)
  refine a_aload_n dX10_numberLines_10 rfl rfl ?_
  refine a_get (v := .ref 24) dX10_numberLines_11 fl_10_38 (cw_l h0 (by decide)) (cw_s h0 (by decide) rfl) (cw_g h0 rfl (by decide +kernel)) ?_
  refine a_iload_n dX10_numberLines_14 rfl rfl ?_
  refine a_aaload (r := 28) dX10_numberLines_15 (cw_l h0 (by decide)) (cw_s h0 (by decide) rfl) (by unfold vp_in; decide +kernel) (cw_r h0 (by decide +kernel)) ?_
  refine a_getN (v := .int 0) dX10_numberLines_16 fn_10_171 (cw_l h0 (by decide)) (cw_s h0 (by decide) rfl) (cw_gi h0 rfl (by decide) (by first | decide +kernel | rfl)) ?_
  refine a_if_ne 25 dX10_numberLines_19 (by decide) (fun c => absurd (by decide) c) (fun _ => ?_)
  refine a_bipush (v := (-5)) dX10_numberLines_22 (by decide) ?_
  exact a_iret dX10_numberLines_24 rfl ⟨rfl, h0⟩
set_option maxHeartbeats 4000000 in
set_option maxRecDepth 100000 in
theorem p_lineByte_1 {X : Nat × (Nat → Int32)} {fr : Nat} {M : Mem} (k : Int32) (i : Int32) (h0 : Cw 126 Lj134 fs42 gs31 M) : AM yX10_lineByte cX10_lineByte 5 (some .int) true (fr + 8) 0 0 X [.ref 0, .int 1, .int k, .int i] M (fun v M1 => v = some (.int (-5)) ∧ Fm M1) := by
  refine AM.of false (by decide +kernel) (by intro h; cases h) (Nat.le_of_ble_eq_true rfl) ?_
  show AW X (RX10, cX10_lineByte, 5, (some .int), false, true, fr + 8) 0 0 0 [(0, .ref 0), (1, .int 1), (2, .int k), (3, .int i)] [] M _
  refine a_aload_n dX10_lineByte_0 rfl rfl ?_
  refine a_iload_n dX10_lineByte_1 rfl rfl ?_
  refine a_callV (As := [.int 1]) (st := []) (a := 0) (ci := 10) (bc := 0) (bs := 0) (mc := 0) (ms := 0) false dX10_lineByte_2 mw_X10_numberLines rfl (Or.inl ⟨rfl, ml_X10_284⟩) im_X10_numberLines se_X10_numberLines (by decide) (cw_l h0 (by decide)) (cw_s h0 (by decide) rfl) rfl (Nat.le_of_ble_eq_true rfl) (z53_X10_numberLines (fr := fr) k i h0) (fun v M1 hq => ?_)
  obtain ⟨rfl, h1⟩ := hq
  show AW X _ 0 0 5 _ [.int (-5)] _ _
  refine a_istore dX10_lineByte_5 (Nat.le_of_ble_eq_true rfl) (lv2 := [(4, .int (-5)), (0, .ref 0), (1, .int 1), (2, .int k), (3, .int i)]) rfl ?_
  refine a_iload dX10_lineByte_7 rfl ?_
  refine a_if_eq 15 dX10_lineByte_9 (by decide) (fun c => absurd c (by decide)) (fun _ => ?_)
  refine a_iload dX10_lineByte_12 rfl ?_
  exact a_iret dX10_lineByte_14 rfl ⟨by solve | rfl | (repeat (first | rw [if_pos (by assumption)] | rw [if_neg (by assumption)])) | simp_all, fm_of h1 (fun a k ha => by first | rfl | (repeat rw [up2_a _ _ _ _ (by omega)]))⟩
set_option maxHeartbeats 4000000 in
set_option maxRecDepth 100000 in
theorem z54_X10_numberLines {X : Nat × (Nat → Int32)} {fr : Nat} {M : Mem} (k : Int32) (i : Int32) (h0 : Cw 126 Lj134 fs42 gs31 M) : AM yX10_numberLines cX10_numberLines 2 (some .int) true (fr + 7) 0 0 X [.ref 0, .int 2] M (fun v M1 => v = some (.int (-5)) ∧ Cw 126 Lj134 fs42 gs31 M1) := by
  refine AM.of false (by decide +kernel) (by intro h; cases h) (Nat.le_of_ble_eq_true rfl) ?_
  show AW X (RX10, cX10_numberLines, 2, (some .int), false, true, fr + 7) 0 0 0 [(0, .ref 0), (1, .int 2)] [] M _
  refine a_iload_n dX10_numberLines_0 rfl rfl ?_
  refine a_callS (As := [.int 2]) (st := []) (bc := 0) (bs := 0) (mc := 0) (ms := 0) false dX10_numberLines_1 mw_X10_noSlot rfl (Or.inl ⟨rfl, ml_X10_151⟩) sm_X10_noSlot rfl (Nat.le_of_ble_eq_true rfl) (k_noSlot (fr := fr + 6) 2) (fun v M1 hq => ?_)
  obtain ⟨rfl, hM1⟩ := hq
  rw [hM1]
  clear hM1 M1
  refine a_st (st2 := [.int 0]) (by decide +kernel) ?_
  refine a_if_eq 10 dX10_numberLines_4 (by decide) (fun _ => ?_) (fun c => absurd (by decide) c)
  refine a_aload_n dX10_numberLines_10 rfl rfl ?_
  refine a_get (v := .ref 24) dX10_numberLines_11 fl_10_38 (cw_l h0 (by decide)) (cw_s h0 (by decide) rfl) (cw_g h0 rfl (by decide +kernel)) ?_
  refine a_iload_n dX10_numberLines_14 rfl rfl ?_
  refine a_aaload (r := 31) dX10_numberLines_15 (cw_l h0 (by decide)) (cw_s h0 (by decide) rfl) (by unfold vp_in; decide +kernel) (cw_r h0 (by decide +kernel)) ?_
  refine a_getN (v := .int 0) dX10_numberLines_16 fn_10_171 (cw_l h0 (by decide)) (cw_s h0 (by decide) rfl) (cw_gi h0 rfl (by decide) (by first | decide +kernel | rfl)) ?_
  refine a_if_ne 25 dX10_numberLines_19 (by decide) (fun c => absurd (by decide) c) (fun _ => ?_)
  refine a_bipush (v := (-5)) dX10_numberLines_22 (by decide) ?_
  exact a_iret dX10_numberLines_24 rfl ⟨rfl, h0⟩
set_option maxHeartbeats 4000000 in
set_option maxRecDepth 100000 in
theorem p_lineByte_2 {X : Nat × (Nat → Int32)} {fr : Nat} {M : Mem} (k : Int32) (i : Int32) (h0 : Cw 126 Lj134 fs42 gs31 M) : AM yX10_lineByte cX10_lineByte 5 (some .int) true (fr + 8) 0 0 X [.ref 0, .int 2, .int k, .int i] M (fun v M1 => v = some (.int (-5)) ∧ Fm M1) := by
  refine AM.of false (by decide +kernel) (by intro h; cases h) (Nat.le_of_ble_eq_true rfl) ?_
  show AW X (RX10, cX10_lineByte, 5, (some .int), false, true, fr + 8) 0 0 0 [(0, .ref 0), (1, .int 2), (2, .int k), (3, .int i)] [] M _
  refine a_aload_n dX10_lineByte_0 rfl rfl ?_
  refine a_iload_n dX10_lineByte_1 rfl rfl ?_
  refine a_callV (As := [.int 2]) (st := []) (a := 0) (ci := 10) (bc := 0) (bs := 0) (mc := 0) (ms := 0) false dX10_lineByte_2 mw_X10_numberLines rfl (Or.inl ⟨rfl, ml_X10_284⟩) im_X10_numberLines se_X10_numberLines (by decide) (cw_l h0 (by decide)) (cw_s h0 (by decide) rfl) rfl (Nat.le_of_ble_eq_true rfl) (z54_X10_numberLines (fr := fr) k i h0) (fun v M1 hq => ?_)
  obtain ⟨rfl, h1⟩ := hq
  show AW X _ 0 0 5 _ [.int (-5)] _ _
  refine a_istore dX10_lineByte_5 (Nat.le_of_ble_eq_true rfl) (lv2 := [(4, .int (-5)), (0, .ref 0), (1, .int 2), (2, .int k), (3, .int i)]) rfl ?_
  refine a_iload dX10_lineByte_7 rfl ?_
  refine a_if_eq 15 dX10_lineByte_9 (by decide) (fun c => absurd c (by decide)) (fun _ => ?_)
  refine a_iload dX10_lineByte_12 rfl ?_
  exact a_iret dX10_lineByte_14 rfl ⟨by solve | rfl | (repeat (first | rw [if_pos (by assumption)] | rw [if_neg (by assumption)])) | simp_all, fm_of h1 (fun a k ha => by first | rfl | (repeat rw [up2_a _ _ _ _ (by omega)]))⟩
set_option maxHeartbeats 4000000 in
set_option maxRecDepth 100000 in
theorem z55_X10_numberLines {X : Nat × (Nat → Int32)} {fr : Nat} {M : Mem} (k : Int32) (i : Int32) (h0 : Cw 126 Lj134 fs42 gs31 M) : AM yX10_numberLines cX10_numberLines 2 (some .int) true (fr + 7) 0 0 X [.ref 0, .int 3] M (fun v M1 => v = some (.int (-5)) ∧ Cw 126 Lj134 fs42 gs31 M1) := by
  refine AM.of false (by decide +kernel) (by intro h; cases h) (Nat.le_of_ble_eq_true rfl) ?_
  show AW X (RX10, cX10_numberLines, 2, (some .int), false, true, fr + 7) 0 0 0 [(0, .ref 0), (1, .int 3)] [] M _
  refine a_iload_n dX10_numberLines_0 rfl rfl ?_
  refine a_callS (As := [.int 3]) (st := []) (bc := 0) (bs := 0) (mc := 0) (ms := 0) false dX10_numberLines_1 mw_X10_noSlot rfl (Or.inl ⟨rfl, ml_X10_151⟩) sm_X10_noSlot rfl (Nat.le_of_ble_eq_true rfl) (k_noSlot (fr := fr + 6) 3) (fun v M1 hq => ?_)
  obtain ⟨rfl, hM1⟩ := hq
  rw [hM1]
  clear hM1 M1
  refine a_st (st2 := [.int 0]) (by decide +kernel) ?_
  refine a_if_eq 10 dX10_numberLines_4 (by decide) (fun _ => ?_) (fun c => absurd (by decide) c)
  refine a_aload_n dX10_numberLines_10 rfl rfl ?_
  refine a_get (v := .ref 24) dX10_numberLines_11 fl_10_38 (cw_l h0 (by decide)) (cw_s h0 (by decide) rfl) (cw_g h0 rfl (by decide +kernel)) ?_
  refine a_iload_n dX10_numberLines_14 rfl rfl ?_
  refine a_aaload (r := 34) dX10_numberLines_15 (cw_l h0 (by decide)) (cw_s h0 (by decide) rfl) (by unfold vp_in; decide +kernel) (cw_r h0 (by decide +kernel)) ?_
  refine a_getN (v := .int 0) dX10_numberLines_16 fn_10_171 (cw_l h0 (by decide)) (cw_s h0 (by decide) rfl) (cw_gi h0 rfl (by decide) (by first | decide +kernel | rfl)) ?_
  refine a_if_ne 25 dX10_numberLines_19 (by decide) (fun c => absurd (by decide) c) (fun _ => ?_)
  refine a_bipush (v := (-5)) dX10_numberLines_22 (by decide) ?_
  exact a_iret dX10_numberLines_24 rfl ⟨rfl, h0⟩
set_option maxHeartbeats 4000000 in
set_option maxRecDepth 100000 in
theorem p_lineByte_3 {X : Nat × (Nat → Int32)} {fr : Nat} {M : Mem} (k : Int32) (i : Int32) (h0 : Cw 126 Lj134 fs42 gs31 M) : AM yX10_lineByte cX10_lineByte 5 (some .int) true (fr + 8) 0 0 X [.ref 0, .int 3, .int k, .int i] M (fun v M1 => v = some (.int (-5)) ∧ Fm M1) := by
  refine AM.of false (by decide +kernel) (by intro h; cases h) (Nat.le_of_ble_eq_true rfl) ?_
  show AW X (RX10, cX10_lineByte, 5, (some .int), false, true, fr + 8) 0 0 0 [(0, .ref 0), (1, .int 3), (2, .int k), (3, .int i)] [] M _
  refine a_aload_n dX10_lineByte_0 rfl rfl ?_
  refine a_iload_n dX10_lineByte_1 rfl rfl ?_
  refine a_callV (As := [.int 3]) (st := []) (a := 0) (ci := 10) (bc := 0) (bs := 0) (mc := 0) (ms := 0) false dX10_lineByte_2 mw_X10_numberLines rfl (Or.inl ⟨rfl, ml_X10_284⟩) im_X10_numberLines se_X10_numberLines (by decide) (cw_l h0 (by decide)) (cw_s h0 (by decide) rfl) rfl (Nat.le_of_ble_eq_true rfl) (z55_X10_numberLines (fr := fr) k i h0) (fun v M1 hq => ?_)
  obtain ⟨rfl, h1⟩ := hq
  show AW X _ 0 0 5 _ [.int (-5)] _ _
  refine a_istore dX10_lineByte_5 (Nat.le_of_ble_eq_true rfl) (lv2 := [(4, .int (-5)), (0, .ref 0), (1, .int 3), (2, .int k), (3, .int i)]) rfl ?_
  refine a_iload dX10_lineByte_7 rfl ?_
  refine a_if_eq 15 dX10_lineByte_9 (by decide) (fun c => absurd c (by decide)) (fun _ => ?_)
  refine a_iload dX10_lineByte_12 rfl ?_
  exact a_iret dX10_lineByte_14 rfl ⟨by solve | rfl | (repeat (first | rw [if_pos (by assumption)] | rw [if_neg (by assumption)])) | simp_all, fm_of h1 (fun a k ha => by first | rfl | (repeat rw [up2_a _ _ _ _ (by omega)]))⟩
