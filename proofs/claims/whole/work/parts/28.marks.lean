/-! FORMULAS: bytes, marks -/
set_option maxHeartbeats 4000000 in
set_option maxRecDepth 100000 in
theorem k_bytesOf {X : Nat × (Nat → Int32)} {M : Mem} {al : Bool} {fr : Nat} (hW : Wd M) (hm : (M.2.2.1 2 7) ≤ 5200) (x : Int32) : AM yX1_bytesOf cX1_bytesOf 2 (some .long) al fr 0 0 X [.ref 2, .int x] M (fun v M1 => v = some (.long (if x < 0 then 0 else if M.2.2.1 2 7 ≤ x then 0 else M.2.2.2.1 6 x.toNatClampNeg)) ∧ M1 = M) := by
  refine AM.of false (by decide +kernel) (by first | (intro _; rfl) | (intro h; cases h)) (Nat.le_of_ble_eq_true rfl) ?_
  show AW X (RX1, cX1_bytesOf, 2, (some .long), false, al, fr) 0 0 0 [(0, .ref 2), (1, .int x)] [] M _
  refine a_iload_n dX1_bytesOf_0 rfl rfl ?_
  refine a_if_lt 21 dX1_bytesOf_1 (by decide) (fun c1 => ?_) (fun c1 => ?_)
  · refine a_lconst (v := 0) dX1_bytesOf_21 (by decide) ?_
    exact a_lret dX1_bytesOf_22 rfl (⟨by solve | rfl | (repeat (first | rw [if_pos (by assumption)] | rw [if_neg (by assumption)])), rfl⟩)
  · refine a_iload_n dX1_bytesOf_4 rfl rfl ?_
    refine a_aload_n dX1_bytesOf_5 rfl rfl ?_
    refine a_get (v := .int (M.2.2.1 2 7)) dX1_bytesOf_6 fl_1_38 (l_2 hW) (s_2 hW) rfl ?_
    refine a_icmp_ge 21 dX1_bytesOf_9 (by decide) (fun c2 => ?_) (fun c2 => ?_)
    · refine a_lconst (v := 0) dX1_bytesOf_21 (by decide) ?_
      exact a_lret dX1_bytesOf_22 rfl (⟨by solve | rfl | (repeat (first | rw [if_pos (by assumption)] | rw [if_neg (by assumption)])), rfl⟩)
    · refine a_aload_n dX1_bytesOf_12 rfl rfl ?_
      refine a_get (v := .ref 6) dX1_bytesOf_13 fl_1_21 (l_2 hW) (s_2 hW) (g_2_3 hW) ?_
      refine a_iload_n dX1_bytesOf_16 rfl rfl ?_
      refine a_laload dX1_bytesOf_17 (l_6 hW) (s_6 hW) (vin_le (by assumption) (by assumption) hm) ?_
      refine a_goto 22 dX1_bytesOf_18 (by decide) ?_
      exact a_lret dX1_bytesOf_22 rfl (⟨by solve | rfl | (repeat (first | rw [if_pos (by assumption)] | rw [if_neg (by assumption)])), rfl⟩)

set_option maxHeartbeats 4000000 in
set_option maxRecDepth 100000 in
theorem k_isMarked {X : Nat × (Nat → Int32)} {M : Mem} {al : Bool} {fr : Nat} (hW : Wd M) (hm : (M.2.2.1 2 7) ≤ 5200) (x : Int32) : AM yX1_isMarked cX1_isMarked 2 (some .boolean) al fr 0 0 X [.ref 2, .int x] M (fun v M1 => v = some (.int (if x < 0 then 0 else if M.2.2.1 2 7 ≤ x then 0 else if M.2.2.1 8 x.toNatClampNeg = M.2.2.1 2 8 then 1 else 0)) ∧ M1 = M) := by
  refine AM.of false (by decide +kernel) (by first | (intro _; rfl) | (intro h; cases h)) (Nat.le_of_ble_eq_true rfl) ?_
  show AW X (RX1, cX1_isMarked, 2, (some .boolean), false, al, fr) 0 0 0 [(0, .ref 2), (1, .int x)] [] M _
  refine a_iload_n dX1_isMarked_0 rfl rfl ?_
  refine a_if_lt 29 dX1_isMarked_1 (by decide) (fun c1 => ?_) (fun c1 => ?_)
  · refine a_iconst (v := 0) dX1_isMarked_29 (by decide) ?_
    exact a_zret dX1_isMarked_30 rfl rfl (⟨by solve | rfl | (repeat (first | rw [if_pos (by assumption)] | rw [if_neg (by assumption)])), rfl⟩)
  · refine a_iload_n dX1_isMarked_4 rfl rfl ?_
    refine a_aload_n dX1_isMarked_5 rfl rfl ?_
    refine a_get (v := .int (M.2.2.1 2 7)) dX1_isMarked_6 fl_1_38 (l_2 hW) (s_2 hW) rfl ?_
    refine a_icmp_ge 29 dX1_isMarked_9 (by decide) (fun c2 => ?_) (fun c2 => ?_)
    · refine a_iconst (v := 0) dX1_isMarked_29 (by decide) ?_
      exact a_zret dX1_isMarked_30 rfl rfl (⟨by solve | rfl | (repeat (first | rw [if_pos (by assumption)] | rw [if_neg (by assumption)])), rfl⟩)
    · refine a_aload_n dX1_isMarked_12 rfl rfl ?_
      refine a_get (v := .ref 8) dX1_isMarked_13 fl_1_28 (l_2 hW) (s_2 hW) (g_2_5 hW) ?_
      refine a_iload_n dX1_isMarked_16 rfl rfl ?_
      refine a_iaload dX1_isMarked_17 (l_8 hW) (s_8 hW) (vin_le (by assumption) (by assumption) hm) ?_
      refine a_aload_n dX1_isMarked_18 rfl rfl ?_
      refine a_get (v := .int (M.2.2.1 2 8)) dX1_isMarked_19 fl_1_59 (l_2 hW) (s_2 hW) rfl ?_
      refine a_icmp_ne 29 dX1_isMarked_22 (by decide) (fun c3 => ?_) (fun c3 => ?_)
      · refine a_iconst (v := 0) dX1_isMarked_29 (by decide) ?_
        exact a_zret dX1_isMarked_30 rfl rfl (⟨by solve | rfl | (repeat (first | rw [if_pos (by assumption)] | rw [if_neg (by assumption)])), rfl⟩)
      · refine a_iconst (v := 1) dX1_isMarked_25 (by decide) ?_
        refine a_goto 30 dX1_isMarked_26 (by decide) ?_
        exact a_zret dX1_isMarked_30 rfl rfl (⟨by solve | rfl | (repeat (first | rw [if_pos (by assumption)] | rw [if_neg (by assumption)])), rfl⟩)

set_option maxHeartbeats 4000000 in
set_option maxRecDepth 100000 in
theorem k_beginMarks {X : Nat × (Nat → Int32)} {M : Mem} {al : Bool} {fr : Nat} (hW : Wd M) : AM yX1_beginMarks cX1_beginMarks 1 none al fr 0 0 X [.ref 2] M (fun v M1 => v = none ∧ M1 = wI M 2 8 (M.2.2.1 2 8 + 1)) := by
  refine AM.of false (by decide +kernel) (by first | (intro _; rfl) | (intro h; cases h)) (Nat.le_of_ble_eq_true rfl) ?_
  show AW X (RX1, cX1_beginMarks, 1, none, false, al, fr) 0 0 0 [(0, .ref 2)] [] M _
  refine a_aload_n dX1_beginMarks_0 rfl rfl ?_
  refine a_dup dX1_beginMarks_1 rfl ?_
  refine a_get (v := .int (M.2.2.1 2 8)) dX1_beginMarks_2 fl_1_59 (l_2 hW) (s_2 hW) rfl ?_
  refine a_iconst (v := 1) dX1_beginMarks_5 (by decide) ?_
  refine a_iadd dX1_beginMarks_6 ?_
  refine a_putI dX1_beginMarks_7 (Or.inl ⟨fl_1_59, Or.inl rfl⟩) rfl (l_2 hW) (s_2 hW) rfl rfl ?_
  exact a_vret dX1_beginMarks_10 rfl (⟨rfl, rfl⟩)

set_option maxHeartbeats 4000000 in
set_option maxRecDepth 100000 in
theorem k_mark {X : Nat × (Nat → Int32)} {M : Mem} {al : Bool} {fr : Nat} (hW : Wd M) (hm : (M.2.2.1 2 7) ≤ 5200) (x : Int32) : AM yX1_mark cX1_mark 2 (some .boolean) al fr 0 0 X [.ref 2, .int x] M (fun v M1 => v = some (.int (if x < 0 then 0 else if M.2.2.1 2 7 ≤ x then 0 else if M.2.2.1 8 x.toNatClampNeg = M.2.2.1 2 8 then 0 else 1)) ∧ M1 = if x < 0 then M else if M.2.2.1 2 7 ≤ x then M else if M.2.2.1 8 x.toNatClampNeg = M.2.2.1 2 8 then M else wI M 8 x.toNatClampNeg (M.2.2.1 2 8)) := by
  refine AM.of false (by decide +kernel) (by first | (intro _; rfl) | (intro h; cases h)) (Nat.le_of_ble_eq_true rfl) ?_
  show AW X (RX1, cX1_mark, 2, (some .boolean), false, al, fr) 0 0 0 [(0, .ref 2), (1, .int x)] [] M _
  refine a_iload_n dX1_mark_0 rfl rfl ?_
  refine a_if_lt 25 dX1_mark_1 (by decide) (fun c1 => ?_) (fun c1 => ?_)
  · refine a_iconst (v := 0) dX1_mark_25 (by decide) ?_
    exact a_zret dX1_mark_26 rfl rfl (⟨by solve | rfl | (repeat (first | rw [if_pos (by assumption)] | rw [if_neg (by assumption)])), by solve | rfl | (repeat (first | rw [if_pos (by assumption)] | rw [if_neg (by assumption)]))⟩)
  · refine a_iload_n dX1_mark_4 rfl rfl ?_
    refine a_aload_n dX1_mark_5 rfl rfl ?_
    refine a_get (v := .int (M.2.2.1 2 7)) dX1_mark_6 fl_1_38 (l_2 hW) (s_2 hW) rfl ?_
    refine a_icmp_ge 25 dX1_mark_9 (by decide) (fun c2 => ?_) (fun c2 => ?_)
    · refine a_iconst (v := 0) dX1_mark_25 (by decide) ?_
      exact a_zret dX1_mark_26 rfl rfl (⟨by solve | rfl | (repeat (first | rw [if_pos (by assumption)] | rw [if_neg (by assumption)])), by solve | rfl | (repeat (first | rw [if_pos (by assumption)] | rw [if_neg (by assumption)]))⟩)
    · refine a_aload_n dX1_mark_12 rfl rfl ?_
      refine a_get (v := .ref 8) dX1_mark_13 fl_1_28 (l_2 hW) (s_2 hW) (g_2_5 hW) ?_
      refine a_iload_n dX1_mark_16 rfl rfl ?_
      refine a_iaload dX1_mark_17 (l_8 hW) (s_8 hW) (vin_le (by assumption) (by assumption) hm) ?_
      refine a_aload_n dX1_mark_18 rfl rfl ?_
      refine a_get (v := .int (M.2.2.1 2 8)) dX1_mark_19 fl_1_59 (l_2 hW) (s_2 hW) rfl ?_
      refine a_icmp_ne 27 dX1_mark_22 (by decide) (fun c3 => ?_) (fun c3 => ?_)
      · refine a_aload_n dX1_mark_27 rfl rfl ?_
        refine a_get (v := .ref 8) dX1_mark_28 fl_1_28 (l_2 hW) (s_2 hW) (g_2_5 hW) ?_
        refine a_iload_n dX1_mark_31 rfl rfl ?_
        refine a_aload_n dX1_mark_32 rfl rfl ?_
        refine a_get (v := .int (M.2.2.1 2 8)) dX1_mark_33 fl_1_59 (l_2 hW) (s_2 hW) rfl ?_
        refine a_iastore dX1_mark_36 (l_8 hW) (s_8 hW) (vin_le (by assumption) (by assumption) hm) ?_
        refine a_iconst (v := 1) dX1_mark_37 (by decide) ?_
        exact a_zret dX1_mark_38 rfl rfl (⟨by solve | rfl | (repeat (first | rw [if_pos (by assumption)] | rw [if_neg (by assumption)])), by solve | rfl | (repeat (first | rw [if_pos (by assumption)] | rw [if_neg (by assumption)]))⟩)
      · refine a_iconst (v := 0) dX1_mark_25 (by decide) ?_
        exact a_zret dX1_mark_26 rfl rfl (⟨by solve | rfl | (repeat (first | rw [if_pos (by assumption)] | rw [if_neg (by assumption)])), by solve | rfl | (repeat (first | rw [if_pos (by assumption)] | rw [if_neg (by assumption)]))⟩)

