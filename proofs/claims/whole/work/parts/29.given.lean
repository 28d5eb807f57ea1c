/-! HYPOTHESES (10 the given, 16 the told ones) -/
set_option maxHeartbeats 4000000 in
set_option maxRecDepth 100000 in
theorem kh10_clear {X : Nat × (Nat → Int32)} {M : Mem} {al : Bool} {fr : Nat} (hW : Wd M) : AM yX2_clear cX2_clear 1 none al fr 0 0 X [.ref 10] M (fun v M1 => v = none ∧ M1 = wI M 10 3 0) := by
  refine AM.of false (by decide +kernel) (by first | (intro _; rfl) | (intro h; cases h)) (Nat.le_of_ble_eq_true rfl) ?_
  show AW X (RX2, cX2_clear, 1, none, false, al, fr) 0 0 0 [(0, .ref 10)] [] M _
  refine a_aload_n dX2_clear_0 rfl rfl ?_
  refine a_iconst (v := 0) dX2_clear_1 (by decide) ?_
  refine a_putI dX2_clear_2 (Or.inl ⟨fl_2_21, Or.inl rfl⟩) rfl (l_10 hW) (s_10 hW) rfl rfl ?_
  exact a_vret dX2_clear_5 rfl (⟨rfl, rfl⟩)

set_option maxHeartbeats 4000000 in
set_option maxRecDepth 100000 in
theorem kh10_isFull {X : Nat × (Nat → Int32)} {M : Mem} {al : Bool} {fr : Nat} (hW : Wd M) : AM yX2_isFull cX2_isFull 1 (some .boolean) al fr 0 0 X [.ref 10] M (fun v M1 => v = some (.int (if M.2.2.1 10 3 < 6 then 0 else 1)) ∧ M1 = M) := by
  refine AM.of false (by decide +kernel) (by first | (intro _; rfl) | (intro h; cases h)) (Nat.le_of_ble_eq_true rfl) ?_
  show AW X (RX2, cX2_isFull, 1, (some .boolean), false, al, fr) 0 0 0 [(0, .ref 10)] [] M _
  refine a_aload_n dX2_isFull_0 rfl rfl ?_
  refine a_get (v := .int (M.2.2.1 10 3)) dX2_isFull_1 fl_2_21 (l_10 hW) (s_10 hW) rfl ?_
  refine a_bipush (v := 6) dX2_isFull_4 (by decide) ?_
  refine a_icmp_lt 13 dX2_isFull_6 (by decide) (fun c1 => ?_) (fun c1 => ?_)
  · refine a_iconst (v := 0) dX2_isFull_13 (by decide) ?_
    exact a_zret dX2_isFull_14 rfl rfl (⟨by solve | rfl | (repeat (first | rw [if_pos (by assumption)] | rw [if_neg (by assumption)])), rfl⟩)
  · refine a_iconst (v := 1) dX2_isFull_9 (by decide) ?_
    refine a_goto 14 dX2_isFull_10 (by decide) ?_
    exact a_zret dX2_isFull_14 rfl rfl (⟨by solve | rfl | (repeat (first | rw [if_pos (by assumption)] | rw [if_neg (by assumption)])), rfl⟩)

set_option maxHeartbeats 4000000 in
set_option maxRecDepth 100000 in
theorem kh10_nameOf {X : Nat × (Nat → Int32)} {M : Mem} {al : Bool} {fr : Nat} (hW : Wd M) (k : Int32) : AM yX2_nameOf cX2_nameOf 2 (some .int) al fr 0 0 X [.ref 10, .int k] M (fun v M1 => v = some (.int (if k < 0 then 0 else if M.2.2.1 10 3 ≤ k then 0 else if 6 ≤ k then 0 else M.2.2.1 11 k.toNatClampNeg)) ∧ M1 = M) := by
  refine AM.of false (by decide +kernel) (by first | (intro _; rfl) | (intro h; cases h)) (Nat.le_of_ble_eq_true rfl) ?_
  show AW X (RX2, cX2_nameOf, 2, (some .int), false, al, fr) 0 0 0 [(0, .ref 10), (1, .int k)] [] M _
  refine a_iload_n dX2_nameOf_0 rfl rfl ?_
  refine a_if_lt 27 dX2_nameOf_1 (by decide) (fun c1 => ?_) (fun c1 => ?_)
  · refine a_iconst (v := 0) dX2_nameOf_27 (by decide) ?_
    exact a_iret dX2_nameOf_28 rfl (⟨by solve | rfl | (repeat (first | rw [if_pos (by assumption)] | rw [if_neg (by assumption)])), rfl⟩)
  · refine a_iload_n dX2_nameOf_4 rfl rfl ?_
    refine a_aload_n dX2_nameOf_5 rfl rfl ?_
    refine a_get (v := .int (M.2.2.1 10 3)) dX2_nameOf_6 fl_2_21 (l_10 hW) (s_10 hW) rfl ?_
    refine a_icmp_ge 27 dX2_nameOf_9 (by decide) (fun c2 => ?_) (fun c2 => ?_)
    · refine a_iconst (v := 0) dX2_nameOf_27 (by decide) ?_
      exact a_iret dX2_nameOf_28 rfl (⟨by solve | rfl | (repeat (first | rw [if_pos (by assumption)] | rw [if_neg (by assumption)])), rfl⟩)
    · refine a_iload_n dX2_nameOf_12 rfl rfl ?_
      refine a_bipush (v := 6) dX2_nameOf_13 (by decide) ?_
      refine a_icmp_ge 27 dX2_nameOf_15 (by decide) (fun c3 => ?_) (fun c3 => ?_)
      · refine a_iconst (v := 0) dX2_nameOf_27 (by decide) ?_
        exact a_iret dX2_nameOf_28 rfl (⟨by solve | rfl | (repeat (first | rw [if_pos (by assumption)] | rw [if_neg (by assumption)])), rfl⟩)
      · refine a_aload_n dX2_nameOf_18 rfl rfl ?_
        refine a_get (v := .ref 11) dX2_nameOf_19 fl_2_9 (l_10 hW) (s_10 hW) (g_10_0 hW) ?_
        refine a_iload_n dX2_nameOf_22 rfl rfl ?_
        refine a_iaload dX2_nameOf_23 (l_11 hW) (s_11 hW) (vin_of (m := 6) (by assumption) (by assumption)) ?_
        refine a_goto 28 dX2_nameOf_24 (by decide) ?_
        exact a_iret dX2_nameOf_28 rfl (⟨by solve | rfl | (repeat (first | rw [if_pos (by assumption)] | rw [if_neg (by assumption)])), rfl⟩)

set_option maxHeartbeats 4000000 in
set_option maxRecDepth 100000 in
theorem kh10_formulaOf {X : Nat × (Nat → Int32)} {M : Mem} {al : Bool} {fr : Nat} (hW : Wd M) (k : Int32) : AM yX2_formulaOf cX2_formulaOf 2 (some .int) al fr 0 0 X [.ref 10, .int k] M (fun v M1 => v = some (.int (if k < 0 then -1 else if M.2.2.1 10 3 ≤ k then -1 else if 6 ≤ k then -1 else M.2.2.1 12 k.toNatClampNeg)) ∧ M1 = M) := by
  refine AM.of false (by decide +kernel) (by first | (intro _; rfl) | (intro h; cases h)) (Nat.le_of_ble_eq_true rfl) ?_
  show AW X (RX2, cX2_formulaOf, 2, (some .int), false, al, fr) 0 0 0 [(0, .ref 10), (1, .int k)] [] M _
  refine a_iload_n dX2_formulaOf_0 rfl rfl ?_
  refine a_if_lt 27 dX2_formulaOf_1 (by decide) (fun c1 => ?_) (fun c1 => ?_)
  · refine a_iconst (v := -1) dX2_formulaOf_27 (by decide) ?_
    exact a_iret dX2_formulaOf_28 rfl (⟨by solve | rfl | (repeat (first | rw [if_pos (by assumption)] | rw [if_neg (by assumption)])), rfl⟩)
  · refine a_iload_n dX2_formulaOf_4 rfl rfl ?_
    refine a_aload_n dX2_formulaOf_5 rfl rfl ?_
    refine a_get (v := .int (M.2.2.1 10 3)) dX2_formulaOf_6 fl_2_21 (l_10 hW) (s_10 hW) rfl ?_
    refine a_icmp_ge 27 dX2_formulaOf_9 (by decide) (fun c2 => ?_) (fun c2 => ?_)
    · refine a_iconst (v := -1) dX2_formulaOf_27 (by decide) ?_
      exact a_iret dX2_formulaOf_28 rfl (⟨by solve | rfl | (repeat (first | rw [if_pos (by assumption)] | rw [if_neg (by assumption)])), rfl⟩)
    · refine a_iload_n dX2_formulaOf_12 rfl rfl ?_
      refine a_bipush (v := 6) dX2_formulaOf_13 (by decide) ?_
      refine a_icmp_ge 27 dX2_formulaOf_15 (by decide) (fun c3 => ?_) (fun c3 => ?_)
      · refine a_iconst (v := -1) dX2_formulaOf_27 (by decide) ?_
        exact a_iret dX2_formulaOf_28 rfl (⟨by solve | rfl | (repeat (first | rw [if_pos (by assumption)] | rw [if_neg (by assumption)])), rfl⟩)
      · refine a_aload_n dX2_formulaOf_18 rfl rfl ?_
        refine a_get (v := .ref 12) dX2_formulaOf_19 fl_2_15 (l_10 hW) (s_10 hW) (g_10_1 hW) ?_
        refine a_iload_n dX2_formulaOf_22 rfl rfl ?_
        refine a_iaload dX2_formulaOf_23 (l_12 hW) (s_12 hW) (vin_of (m := 6) (by assumption) (by assumption)) ?_
        refine a_goto 28 dX2_formulaOf_24 (by decide) ?_
        exact a_iret dX2_formulaOf_28 rfl (⟨by solve | rfl | (repeat (first | rw [if_pos (by assumption)] | rw [if_neg (by assumption)])), rfl⟩)

set_option maxHeartbeats 4000000 in
set_option maxRecDepth 100000 in
theorem kh16_clear {X : Nat × (Nat → Int32)} {M : Mem} {al : Bool} {fr : Nat} (hW : Wd M) : AM yX2_clear cX2_clear 1 none al fr 0 0 X [.ref 16] M (fun v M1 => v = none ∧ M1 = wI M 16 3 0) := by
  refine AM.of false (by decide +kernel) (by first | (intro _; rfl) | (intro h; cases h)) (Nat.le_of_ble_eq_true rfl) ?_
  show AW X (RX2, cX2_clear, 1, none, false, al, fr) 0 0 0 [(0, .ref 16)] [] M _
  refine a_aload_n dX2_clear_0 rfl rfl ?_
  refine a_iconst (v := 0) dX2_clear_1 (by decide) ?_
  refine a_putI dX2_clear_2 (Or.inl ⟨fl_2_21, Or.inl rfl⟩) rfl (l_16 hW) (s_16 hW) rfl rfl ?_
  exact a_vret dX2_clear_5 rfl (⟨rfl, rfl⟩)

set_option maxHeartbeats 4000000 in
set_option maxRecDepth 100000 in
theorem kh16_isFull {X : Nat × (Nat → Int32)} {M : Mem} {al : Bool} {fr : Nat} (hW : Wd M) : AM yX2_isFull cX2_isFull 1 (some .boolean) al fr 0 0 X [.ref 16] M (fun v M1 => v = some (.int (if M.2.2.1 16 3 < 6 then 0 else 1)) ∧ M1 = M) := by
  refine AM.of false (by decide +kernel) (by first | (intro _; rfl) | (intro h; cases h)) (Nat.le_of_ble_eq_true rfl) ?_
  show AW X (RX2, cX2_isFull, 1, (some .boolean), false, al, fr) 0 0 0 [(0, .ref 16)] [] M _
  refine a_aload_n dX2_isFull_0 rfl rfl ?_
  refine a_get (v := .int (M.2.2.1 16 3)) dX2_isFull_1 fl_2_21 (l_16 hW) (s_16 hW) rfl ?_
  refine a_bipush (v := 6) dX2_isFull_4 (by decide) ?_
  refine a_icmp_lt 13 dX2_isFull_6 (by decide) (fun c1 => ?_) (fun c1 => ?_)
  · refine a_iconst (v := 0) dX2_isFull_13 (by decide) ?_
    exact a_zret dX2_isFull_14 rfl rfl (⟨by solve | rfl | (repeat (first | rw [if_pos (by assumption)] | rw [if_neg (by assumption)])), rfl⟩)
  · refine a_iconst (v := 1) dX2_isFull_9 (by decide) ?_
    refine a_goto 14 dX2_isFull_10 (by decide) ?_
    exact a_zret dX2_isFull_14 rfl rfl (⟨by solve | rfl | (repeat (first | rw [if_pos (by assumption)] | rw [if_neg (by assumption)])), rfl⟩)

set_option maxHeartbeats 4000000 in
set_option maxRecDepth 100000 in
theorem kh16_nameOf {X : Nat × (Nat → Int32)} {M : Mem} {al : Bool} {fr : Nat} (hW : Wd M) (k : Int32) : AM yX2_nameOf cX2_nameOf 2 (some .int) al fr 0 0 X [.ref 16, .int k] M (fun v M1 => v = some (.int (if k < 0 then 0 else if M.2.2.1 16 3 ≤ k then 0 else if 6 ≤ k then 0 else M.2.2.1 17 k.toNatClampNeg)) ∧ M1 = M) := by
  refine AM.of false (by decide +kernel) (by first | (intro _; rfl) | (intro h; cases h)) (Nat.le_of_ble_eq_true rfl) ?_
  show AW X (RX2, cX2_nameOf, 2, (some .int), false, al, fr) 0 0 0 [(0, .ref 16), (1, .int k)] [] M _
  refine a_iload_n dX2_nameOf_0 rfl rfl ?_
  refine a_if_lt 27 dX2_nameOf_1 (by decide) (fun c1 => ?_) (fun c1 => ?_)
  · refine a_iconst (v := 0) dX2_nameOf_27 (by decide) ?_
    exact a_iret dX2_nameOf_28 rfl (⟨by solve | rfl | (repeat (first | rw [if_pos (by assumption)] | rw [if_neg (by assumption)])), rfl⟩)
  · refine a_iload_n dX2_nameOf_4 rfl rfl ?_
    refine a_aload_n dX2_nameOf_5 rfl rfl ?_
    refine a_get (v := .int (M.2.2.1 16 3)) dX2_nameOf_6 fl_2_21 (l_16 hW) (s_16 hW) rfl ?_
    refine a_icmp_ge 27 dX2_nameOf_9 (by decide) (fun c2 => ?_) (fun c2 => ?_)
    · refine a_iconst (v := 0) dX2_nameOf_27 (by decide) ?_
      exact a_iret dX2_nameOf_28 rfl (⟨by solve | rfl | (repeat (first | rw [if_pos (by assumption)] | rw [if_neg (by assumption)])), rfl⟩)
    · refine a_iload_n dX2_nameOf_12 rfl rfl ?_
      refine a_bipush (v := 6) dX2_nameOf_13 (by decide) ?_
      refine a_icmp_ge 27 dX2_nameOf_15 (by decide) (fun c3 => ?_) (fun c3 => ?_)
      · refine a_iconst (v := 0) dX2_nameOf_27 (by decide) ?_
        exact a_iret dX2_nameOf_28 rfl (⟨by solve | rfl | (repeat (first | rw [if_pos (by assumption)] | rw [if_neg (by assumption)])), rfl⟩)
      · refine a_aload_n dX2_nameOf_18 rfl rfl ?_
        refine a_get (v := .ref 17) dX2_nameOf_19 fl_2_9 (l_16 hW) (s_16 hW) (g_16_0 hW) ?_
        refine a_iload_n dX2_nameOf_22 rfl rfl ?_
        refine a_iaload dX2_nameOf_23 (l_17 hW) (s_17 hW) (vin_of (m := 6) (by assumption) (by assumption)) ?_
        refine a_goto 28 dX2_nameOf_24 (by decide) ?_
        exact a_iret dX2_nameOf_28 rfl (⟨by solve | rfl | (repeat (first | rw [if_pos (by assumption)] | rw [if_neg (by assumption)])), rfl⟩)

set_option maxHeartbeats 4000000 in
set_option maxRecDepth 100000 in
theorem kh16_formulaOf {X : Nat × (Nat → Int32)} {M : Mem} {al : Bool} {fr : Nat} (hW : Wd M) (k : Int32) : AM yX2_formulaOf cX2_formulaOf 2 (some .int) al fr 0 0 X [.ref 16, .int k] M (fun v M1 => v = some (.int (if k < 0 then -1 else if M.2.2.1 16 3 ≤ k then -1 else if 6 ≤ k then -1 else M.2.2.1 18 k.toNatClampNeg)) ∧ M1 = M) := by
  refine AM.of false (by decide +kernel) (by first | (intro _; rfl) | (intro h; cases h)) (Nat.le_of_ble_eq_true rfl) ?_
  show AW X (RX2, cX2_formulaOf, 2, (some .int), false, al, fr) 0 0 0 [(0, .ref 16), (1, .int k)] [] M _
  refine a_iload_n dX2_formulaOf_0 rfl rfl ?_
  refine a_if_lt 27 dX2_formulaOf_1 (by decide) (fun c1 => ?_) (fun c1 => ?_)
  · refine a_iconst (v := -1) dX2_formulaOf_27 (by decide) ?_
    exact a_iret dX2_formulaOf_28 rfl (⟨by solve | rfl | (repeat (first | rw [if_pos (by assumption)] | rw [if_neg (by assumption)])), rfl⟩)
  · refine a_iload_n dX2_formulaOf_4 rfl rfl ?_
    refine a_aload_n dX2_formulaOf_5 rfl rfl ?_
    refine a_get (v := .int (M.2.2.1 16 3)) dX2_formulaOf_6 fl_2_21 (l_16 hW) (s_16 hW) rfl ?_
    refine a_icmp_ge 27 dX2_formulaOf_9 (by decide) (fun c2 => ?_) (fun c2 => ?_)
    · refine a_iconst (v := -1) dX2_formulaOf_27 (by decide) ?_
      exact a_iret dX2_formulaOf_28 rfl (⟨by solve | rfl | (repeat (first | rw [if_pos (by assumption)] | rw [if_neg (by assumption)])), rfl⟩)
    · refine a_iload_n dX2_formulaOf_12 rfl rfl ?_
      refine a_bipush (v := 6) dX2_formulaOf_13 (by decide) ?_
      refine a_icmp_ge 27 dX2_formulaOf_15 (by decide) (fun c3 => ?_) (fun c3 => ?_)
      · refine a_iconst (v := -1) dX2_formulaOf_27 (by decide) ?_
        exact a_iret dX2_formulaOf_28 rfl (⟨by solve | rfl | (repeat (first | rw [if_pos (by assumption)] | rw [if_neg (by assumption)])), rfl⟩)
      · refine a_aload_n dX2_formulaOf_18 rfl rfl ?_
        refine a_get (v := .ref 18) dX2_formulaOf_19 fl_2_15 (l_16 hW) (s_16 hW) (g_16_1 hW) ?_
        refine a_iload_n dX2_formulaOf_22 rfl rfl ?_
        refine a_iaload dX2_formulaOf_23 (l_18 hW) (s_18 hW) (vin_of (m := 6) (by assumption) (by assumption)) ?_
        refine a_goto 28 dX2_formulaOf_24 (by decide) ?_
        exact a_iret dX2_formulaOf_28 rfl (⟨by solve | rfl | (repeat (first | rw [if_pos (by assumption)] | rw [if_neg (by assumption)])), rfl⟩)

set_option maxHeartbeats 4000000 in
set_option maxRecDepth 100000 in
theorem k_arity {X : Nat × (Nat → Int32)} {M : Mem} {al : Bool} {fr : Nat} (x : Int32) : AM yX10_arity cX10_arity 1 (some .int) al fr 0 0 X [.int x] M (fun v M1 => v = some (.int (if x < 0 then 0 else if 11 ≤ x then 0 else arF x.toNatClampNeg)) ∧ M1 = M) := by
  refine AM.of false (by decide +kernel) (by first | (intro _; rfl) | (intro h; cases h)) (Nat.le_of_ble_eq_true rfl) ?_
  show AW X (RX10, cX10_arity, 1, (some .int), false, al, fr) 0 0 0 [(0, .int x)] [] M _
  refine a_iload_n dX10_arity_0 rfl rfl ?_
  refine a_if_lt 20 dX10_arity_1 (by decide) (fun c1 => ?_) (fun c1 => ?_)
  · refine a_iconst (v := 0) dX10_arity_20 (by decide) ?_
    exact a_iret dX10_arity_21 rfl (⟨by solve | rfl | (repeat (first | rw [if_pos (by assumption)] | rw [if_neg (by assumption)])), rfl⟩)
  · refine a_iload_n dX10_arity_4 rfl rfl ?_
    refine a_stAR dX10_arity_5 sf_X10_350 ?_
    refine a_lenAR dX10_arity_8 ?_
    refine a_icmp_ge 20 dX10_arity_9 (by decide) (fun c2 => ?_) (fun c2 => ?_)
    · refine a_iconst (v := 0) dX10_arity_20 (by decide) ?_
      exact a_iret dX10_arity_21 rfl (⟨by solve | rfl | (repeat (first | rw [if_pos (by assumption)] | rw [if_neg (by assumption)])), rfl⟩)
    · refine a_stAR dX10_arity_12 sf_X10_350 ?_
      refine a_iload_n dX10_arity_15 rfl rfl ?_
      refine a_ldAR dX10_arity_16 (vin_of (m := 11) (by assumption) (by assumption)) ?_
      refine a_goto 21 dX10_arity_17 (by decide) ?_
      exact a_iret dX10_arity_21 rfl (⟨by solve | rfl | (repeat (first | rw [if_pos (by assumption)] | rw [if_neg (by assumption)])), rfl⟩)

set_option maxHeartbeats 4000000 in
set_option maxRecDepth 100000 in
theorem k_tapeLacks {X : Nat × (Nat → Int32)} {M : Mem} {al : Bool} {fr : Nat} (hW : Wd M) (n : Int32) : AM yX10_tapeLacks cX10_tapeLacks 2 (some .boolean) al fr 0 0 X [.ref 0, .int n] M (fun v M1 => v = some (.int (if n < 0 then 1 else if n ≤ M.2.2.1 0 1 then 0 else 1)) ∧ M1 = M) := by
  refine AM.of false (by decide +kernel) (by first | (intro _; rfl) | (intro h; cases h)) (Nat.le_of_ble_eq_true rfl) ?_
  show AW X (RX10, cX10_tapeLacks, 2, (some .boolean), false, al, fr) 0 0 0 [(0, .ref 0), (1, .int n)] [] M _
  refine a_iload_n dX10_tapeLacks_0 rfl rfl ?_
  refine a_if_lt 12 dX10_tapeLacks_1 (by decide) (fun c1 => ?_) (fun c1 => ?_)
  · refine a_iconst (v := 1) dX10_tapeLacks_12 (by decide) ?_
    refine a_goto 17 dX10_tapeLacks_13 (by decide) ?_
    exact a_zret dX10_tapeLacks_17 rfl rfl (⟨by solve | rfl | (repeat (first | rw [if_pos (by assumption)] | rw [if_neg (by assumption)])), rfl⟩)
  · refine a_iload_n dX10_tapeLacks_4 rfl rfl ?_
    refine a_aload_n dX10_tapeLacks_5 rfl rfl ?_
    refine a_get (v := .int (M.2.2.1 0 1)) dX10_tapeLacks_6 fl_10_112 (l_0 hW) (s_0 hW) rfl ?_
    refine a_icmp_le 16 dX10_tapeLacks_9 (by decide) (fun c2 => ?_) (fun c2 => ?_)
    · refine a_iconst (v := 0) dX10_tapeLacks_16 (by decide) ?_
      exact a_zret dX10_tapeLacks_17 rfl rfl (⟨by solve | rfl | (repeat (first | rw [if_pos (by assumption)] | rw [if_neg (by assumption)])), rfl⟩)
    · refine a_iconst (v := 1) dX10_tapeLacks_12 (by decide) ?_
      refine a_goto 17 dX10_tapeLacks_13 (by decide) ?_
      exact a_zret dX10_tapeLacks_17 rfl rfl (⟨by solve | rfl | (repeat (first | rw [if_pos (by assumption)] | rw [if_neg (by assumption)])), rfl⟩)

