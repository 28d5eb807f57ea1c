/-! THE REFERENCE's small methods -/
set_option maxHeartbeats 4000000 in
set_option maxRecDepth 100000 in
theorem r_fails {X : Nat × (Nat → Int32)} {M : Mem} {al : Bool} {fr : Nat} (hW : Wd M) (a b : Int32) : AM yX11_fails cX11_fails 3 none al fr 0 0 X [.ref 89, .int a, .int b] M (fun v M1 => v = none ∧ M1 = if M.2.2.1 89 30 = 0 then wI (wI M 89 30 a) 89 31 b else M) := by
  refine AM.of false (by decide +kernel) (by first | (intro _; rfl) | (intro h; cases h)) (Nat.le_of_ble_eq_true rfl) ?_
  show AW X (RX11, cX11_fails, 3, none, false, al, fr) 0 0 0 [(0, .ref 89), (1, .int a), (2, .int b)] [] M _
  refine a_aload_n dX11_fails_0 rfl rfl ?_
  refine a_get (v := .int (M.2.2.1 89 30)) dX11_fails_1 fl_11_163 (l_89 hW) (s_89 hW) rfl ?_
  refine a_if_eq 8 dX11_fails_4 (by decide) (fun c1 => ?_) (fun c1 => ?_)
  · refine a_aload_n dX11_fails_8 rfl rfl ?_
    refine a_iload_n dX11_fails_9 rfl rfl ?_
    refine a_putI dX11_fails_10 (Or.inl ⟨fl_11_163, Or.inl rfl⟩) rfl (l_89 hW) (s_89 hW) rfl rfl ?_
    refine a_aload_n dX11_fails_13 rfl rfl ?_
    refine a_iload_n dX11_fails_14 rfl rfl ?_
    refine a_putI dX11_fails_15 (Or.inl ⟨fl_11_166, Or.inl rfl⟩) rfl (l_89 hW) (s_89 hW) rfl rfl ?_
    exact a_vret dX11_fails_18 rfl (⟨rfl, by solve | rfl | (repeat (first | rw [if_pos (by assumption)] | rw [if_neg (by assumption)]))⟩)
  · exact a_vret dX11_fails_7 rfl (⟨rfl, by solve | rfl | (repeat (first | rw [if_pos (by assumption)] | rw [if_neg (by assumption)]))⟩)

set_option maxHeartbeats 4000000 in
set_option maxRecDepth 100000 in
theorem r_settles {X : Nat × (Nat → Int32)} {M : Mem} {al : Bool} {fr : Nat} (hW : Wd M) : AM yX11_settles cX11_settles 1 (some .int) al fr 0 0 X [.ref 89] M (fun v M1 => v = some (.int (M.2.2.1 89 30)) ∧ M1 = wI (wI M 89 32 (M.2.2.1 89 30)) 89 33 (M.2.2.1 89 31)) := by
  refine AM.of false (by decide +kernel) (by first | (intro _; rfl) | (intro h; cases h)) (Nat.le_of_ble_eq_true rfl) ?_
  show AW X (RX11, cX11_settles, 1, (some .int), false, al, fr) 0 0 0 [(0, .ref 89)] [] M _
  refine a_aload_n dX11_settles_0 rfl rfl ?_
  refine a_aload_n dX11_settles_1 rfl rfl ?_
  refine a_get (v := .int (M.2.2.1 89 30)) dX11_settles_2 fl_11_163 (l_89 hW) (s_89 hW) rfl ?_
  refine a_putI dX11_settles_5 (Or.inl ⟨fl_11_201, Or.inl rfl⟩) rfl (l_89 hW) (s_89 hW) rfl rfl ?_
  refine a_aload_n dX11_settles_8 rfl rfl ?_
  refine a_aload_n dX11_settles_9 rfl rfl ?_
  refine a_get (v := .int (M.2.2.1 89 31)) dX11_settles_10 fl_11_166 (l_89 hW) (s_89 hW) rfl ?_
  refine a_putI dX11_settles_13 (Or.inl ⟨fl_11_75, Or.inl rfl⟩) rfl (l_89 hW) (s_89 hW) rfl rfl ?_
  refine a_aload_n dX11_settles_16 rfl rfl ?_
  refine a_get (v := .int (M.2.2.1 89 30)) dX11_settles_17 fl_11_163 (l_89 hW) (s_89 hW) rfl ?_
  exact a_iret dX11_settles_20 rfl (⟨rfl, rfl⟩)

set_option maxHeartbeats 4000000 in
set_option maxRecDepth 100000 in
theorem r_begins0 {X : Nat × (Nat → Int32)} {M : Mem} {al : Bool} {fr : Nat} (hW : Wd M) (i : Int32) : AM yX11_begins0 cX11_begins0 2 none al fr 0 0 X [.ref 89, .int i] M (fun v M1 => v = none ∧ M1 = wI (wI (wI M 89 48 0) 89 49 i) 89 50 (-1)) := by
  refine AM.of false (by decide +kernel) (by first | (intro _; rfl) | (intro h; cases h)) (Nat.le_of_ble_eq_true rfl) ?_
  show AW X (RX11, cX11_begins0, 2, none, false, al, fr) 0 0 0 [(0, .ref 89), (1, .int i)] [] M _
  refine a_aload_n dX11_begins0_0 rfl rfl ?_
  refine a_iconst (v := 0) dX11_begins0_1 (by decide) ?_
  refine a_putI dX11_begins0_2 (Or.inl ⟨fl_11_361, Or.inl rfl⟩) rfl (l_89 hW) (s_89 hW) rfl rfl ?_
  refine a_aload_n dX11_begins0_5 rfl rfl ?_
  refine a_iload_n dX11_begins0_6 rfl rfl ?_
  refine a_putI dX11_begins0_7 (Or.inl ⟨fl_11_364, Or.inl rfl⟩) rfl (l_89 hW) (s_89 hW) rfl rfl ?_
  refine a_aload_n dX11_begins0_10 rfl rfl ?_
  refine a_iconst (v := -1) dX11_begins0_11 (by decide) ?_
  refine a_putI dX11_begins0_12 (Or.inl ⟨fl_11_367, Or.inl rfl⟩) rfl (l_89 hW) (s_89 hW) rfl rfl ?_
  exact a_vret dX11_begins0_15 rfl (⟨rfl, rfl⟩)

set_option maxHeartbeats 4000000 in
set_option maxRecDepth 100000 in
theorem r_peek {X : Nat × (Nat → Int32)} {M : Mem} {al : Bool} {fr : Nat} (hW : Wd M) (h0 : ¬ M.2.2.1 89 29 < 0) (h1 : M.2.2.1 89 28 ≤ 600) : AM yX11_peek cX11_peek 1 (some .int) al fr 0 0 X [.ref 89] M (fun v M1 => v = some (.int (if M.2.2.1 89 28 ≤ M.2.2.1 89 29 then -1 else M.2.2.1 109 (M.2.2.1 89 29).toNatClampNeg &&& 255)) ∧ M1 = M) := by
  refine AM.of false (by decide +kernel) (by first | (intro _; rfl) | (intro h; cases h)) (Nat.le_of_ble_eq_true rfl) ?_
  show AW X (RX11, cX11_peek, 1, (some .int), false, al, fr) 0 0 0 [(0, .ref 89)] [] M _
  refine a_aload_n dX11_peek_0 rfl rfl ?_
  refine a_get (v := .int (M.2.2.1 89 29)) dX11_peek_1 fl_11_157 (l_89 hW) (s_89 hW) rfl ?_
  refine a_aload_n dX11_peek_4 rfl rfl ?_
  refine a_get (v := .int (M.2.2.1 89 28)) dX11_peek_5 fl_11_160 (l_89 hW) (s_89 hW) rfl ?_
  refine a_icmp_ge 27 dX11_peek_8 (by decide) (fun c1 => ?_) (fun c1 => ?_)
  · refine a_iconst (v := -1) dX11_peek_27 (by decide) ?_
    exact a_iret dX11_peek_28 rfl (⟨by solve | rfl | (repeat (first | rw [if_pos (by assumption)] | rw [if_neg (by assumption)])), rfl⟩)
  · refine a_aload_n dX11_peek_11 rfl rfl ?_
    refine a_get (v := .ref 109) dX11_peek_12 fl_11_71 (l_89 hW) (s_89 hW) (g_89_26 hW) ?_
    refine a_aload_n dX11_peek_15 rfl rfl ?_
    refine a_get (v := .int (M.2.2.1 89 29)) dX11_peek_16 fl_11_157 (l_89 hW) (s_89 hW) rfl ?_
    refine a_baload dX11_peek_19 (by decide) (l_109 hW) (s_109 hW) (vin_le h0 (by assumption) h1) ?_
    refine a_sipush (v := 255) dX11_peek_20 (by decide) ?_
    refine a_iand dX11_peek_23 ?_
    refine a_goto 28 dX11_peek_24 (by decide) ?_
    exact a_iret dX11_peek_28 rfl (⟨by solve | rfl | (repeat (first | rw [if_pos (by assumption)] | rw [if_neg (by assumption)])), rfl⟩)

set_option maxHeartbeats 4000000 in
set_option maxRecDepth 100000 in
theorem r_isEmpty {X : Nat × (Nat → Int32)} {M : Mem} {al : Bool} {fr : Nat} (hW : Wd M) (x : Int32) (hx : vp_in x 4) : AM yX11_isEmpty cX11_isEmpty 2 (some .boolean) al fr 0 0 X [.ref 89, .int x] M (fun v M1 => v = some (.int (if M.2.2.1 104 x.toNatClampNeg = 0 then 1 else 0)) ∧ M1 = M) := by
  refine AM.of false (by decide +kernel) (by first | (intro _; rfl) | (intro h; cases h)) (Nat.le_of_ble_eq_true rfl) ?_
  show AW X (RX11, cX11_isEmpty, 2, (some .boolean), false, al, fr) 0 0 0 [(0, .ref 89), (1, .int x)] [] M _
  refine a_aload_n dX11_isEmpty_0 rfl rfl ?_
  refine a_get (v := .ref 104) dX11_isEmpty_1 fl_11_56 (l_89 hW) (s_89 hW) (g_89_19 hW) ?_
  refine a_iload_n dX11_isEmpty_4 rfl rfl ?_
  refine a_iaload dX11_isEmpty_5 (l_104 hW) (s_104 hW) hx ?_
  refine a_if_ne 13 dX11_isEmpty_6 (by decide) (fun c1 => ?_) (fun c1 => ?_)
  · refine a_iconst (v := 0) dX11_isEmpty_13 (by decide) ?_
    exact a_zret dX11_isEmpty_14 rfl rfl (⟨by solve | rfl | (repeat (first | rw [if_pos (by assumption)] | rw [if_neg (by assumption)])), rfl⟩)
  · refine a_iconst (v := 1) dX11_isEmpty_9 (by decide) ?_
    refine a_goto 14 dX11_isEmpty_10 (by decide) ?_
    exact a_zret dX11_isEmpty_14 rfl rfl (⟨by solve | rfl | (repeat (first | rw [if_pos (by assumption)] | rw [if_neg (by assumption)])), rfl⟩)

set_option maxHeartbeats 4000000 in
set_option maxRecDepth 100000 in
theorem r_arity {X : Nat × (Nat → Int32)} {M : Mem} {al : Bool} {fr : Nat} (x : Int32) : AM yX11_arity cX11_arity 1 (some .int) al fr 0 0 X [.int x] M (fun v M1 => v = some (.int (if x = 0 then 0 else if x = 2 then 2 else if x = 3 then 2 else if x = 8 then 3 else 1)) ∧ M1 = M) := by
  refine AM.of false (by decide +kernel) (by first | (intro _; rfl) | (intro h; cases h)) (Nat.le_of_ble_eq_true rfl) ?_
  show AW X (RX11, cX11_arity, 1, (some .int), false, al, fr) 0 0 0 [(0, .int x)] [] M _
  refine a_iload_n dX11_arity_0 rfl rfl ?_
  refine a_if_ne 8 dX11_arity_1 (by decide) (fun c1 => ?_) (fun c1 => ?_)
  · refine a_iload_n dX11_arity_8 rfl rfl ?_
    refine a_iconst (v := 2) dX11_arity_9 (by decide) ?_
    refine a_icmp_eq 18 dX11_arity_10 (by decide) (fun c2 => ?_) (fun c2 => ?_)
    · refine a_iconst (v := 2) dX11_arity_18 (by decide) ?_
      refine a_goto 33 dX11_arity_19 (by decide) ?_
      exact a_iret dX11_arity_33 rfl (⟨by solve | rfl | (repeat (first | rw [if_pos (by assumption)] | rw [if_neg (by assumption)])), rfl⟩)
    · refine a_iload_n dX11_arity_13 rfl rfl ?_
      refine a_iconst (v := 3) dX11_arity_14 (by decide) ?_
      refine a_icmp_ne 22 dX11_arity_15 (by decide) (fun c3 => ?_) (fun c3 => ?_)
      · refine a_iload_n dX11_arity_22 rfl rfl ?_
        refine a_bipush (v := 8) dX11_arity_23 (by decide) ?_
        refine a_icmp_ne 32 dX11_arity_25 (by decide) (fun c4 => ?_) (fun c4 => ?_)
        · refine a_iconst (v := 1) dX11_arity_32 (by decide) ?_
          exact a_iret dX11_arity_33 rfl (⟨by solve | rfl | (repeat (first | rw [if_pos (by assumption)] | rw [if_neg (by assumption)])), rfl⟩)
        · refine a_iconst (v := 3) dX11_arity_28 (by decide) ?_
          refine a_goto 33 dX11_arity_29 (by decide) ?_
          exact a_iret dX11_arity_33 rfl (⟨by solve | rfl | (repeat (first | rw [if_pos (by assumption)] | rw [if_neg (by assumption)])), rfl⟩)
      · refine a_iconst (v := 2) dX11_arity_18 (by decide) ?_
        refine a_goto 33 dX11_arity_19 (by decide) ?_
        exact a_iret dX11_arity_33 rfl (⟨by solve | rfl | (repeat (first | rw [if_pos (by assumption)] | rw [if_neg (by assumption)])), rfl⟩)
  · refine a_iconst (v := 0) dX11_arity_4 (by decide) ?_
    refine a_goto 33 dX11_arity_5 (by decide) ?_
    exact a_iret dX11_arity_33 rfl (⟨by solve | rfl | (repeat (first | rw [if_pos (by assumption)] | rw [if_neg (by assumption)])), rfl⟩)

