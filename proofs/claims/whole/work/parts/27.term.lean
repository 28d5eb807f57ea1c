/-! TERMS, at any place t: rows of words at t + 1, of arguments at t + 2 -/
def IsT (M : Mem) (t : Nat) : Prop := t < M.1 ∧ t + 1 < M.1 ∧ t + 2 < M.1 ∧ M.2.1 t = .inr 9 ∧ M.2.1 (t + 1) = .inl (1, 200) ∧ M.2.1 (t + 2) = .inl (1, 200) ∧ gv M 9 t 0 = .ref (t + 1) ∧ gv M 9 t 1 = .ref (t + 2)
theorem gvI_a {M : Mem} {ci a b j k : Nat} {x : Int32} (h : b ≠ a) : gv (wI M a k x) ci b j = gv M ci b j := by
  unfold gv
  show (match fK ci j with | 0 => Value.int (up2 M.2.2.1 a k x b j) | 1 => _ | _ => _) = _
  rw [up2_a _ _ _ _ h]
  rfl
theorem gvI_k {M : Mem} {ci a j k : Nat} {x : Int32} (h : j ≠ k) : gv (wI M a k x) ci a j = gv M ci a j := by
  unfold gv
  show (match fK ci j with | 0 => Value.int (up2 M.2.2.1 a k x a j) | 1 => _ | _ => _) = _
  rw [up2_k _ _ _ h]
  rfl
theorem gvI_s {M : Mem} {ci a k : Nat} {x : Int32} (h : fK ci k = 0) : gv (wI M a k x) ci a k = .int x := by
  unfold gv
  rw [h]
  show Value.int (up2 M.2.2.1 a k x a k) = _
  rw [up2_s]
theorem IsT.w {M : Mem} {t a k : Nat} {x : Int32} (h : IsT M t) : IsT (wI M a k x) t := h
set_option maxHeartbeats 4000000 in
set_option maxRecDepth 100000 in
theorem kt_opAt {X : Nat × (Nat → Int32)} {M : Mem} {al : Bool} {fr : Nat} {t : Nat} (ht : IsT M t) (hn : M.2.2.1 t 2 ≤ 200) (i : Int32) : AM yX9_opAt cX9_opAt 2 (some .int) al fr 0 0 X [.ref t, .int i] M (fun v M1 => v = some (.int (if i < 0 then -1 else if M.2.2.1 t 2 ≤ i then -1 else M.2.2.1 (t + 1) i.toNatClampNeg)) ∧ M1 = M) := by
  refine AM.of false (by decide +kernel) (by first | (intro _; rfl) | (intro h; cases h)) (Nat.le_of_ble_eq_true rfl) ?_
  show AW X (RX9, cX9_opAt, 2, (some .int), false, al, fr) 0 0 0 [(0, .ref t), (1, .int i)] [] M _
  refine a_iload_n dX9_opAt_0 rfl rfl ?_
  refine a_if_lt 21 dX9_opAt_1 (by decide) (fun c1 => ?_) (fun c1 => ?_)
  · refine a_iconst (v := -1) dX9_opAt_21 (by decide) ?_
    exact a_iret dX9_opAt_22 rfl (⟨by solve | rfl | (repeat (first | rw [if_pos (by assumption)] | rw [if_neg (by assumption)])), rfl⟩)
  · refine a_iload_n dX9_opAt_4 rfl rfl ?_
    refine a_aload_n dX9_opAt_5 rfl rfl ?_
    refine a_get (v := .int (M.2.2.1 t 2)) dX9_opAt_6 fl_9_18 ht.1 ht.2.2.2.1 rfl ?_
    refine a_icmp_ge 21 dX9_opAt_9 (by decide) (fun c2 => ?_) (fun c2 => ?_)
    · refine a_iconst (v := -1) dX9_opAt_21 (by decide) ?_
      exact a_iret dX9_opAt_22 rfl (⟨by solve | rfl | (repeat (first | rw [if_pos (by assumption)] | rw [if_neg (by assumption)])), rfl⟩)
    · refine a_aload_n dX9_opAt_12 rfl rfl ?_
      refine a_get (v := .ref (t + 1)) dX9_opAt_13 fl_9_9 ht.1 ht.2.2.2.1 ht.2.2.2.2.2.2.1 ?_
      refine a_iload_n dX9_opAt_16 rfl rfl ?_
      refine a_iaload dX9_opAt_17 ht.2.1 ht.2.2.2.2.1 (vin_le (by assumption) (by assumption) hn) ?_
      refine a_goto 22 dX9_opAt_18 (by decide) ?_
      exact a_iret dX9_opAt_22 rfl (⟨by solve | rfl | (repeat (first | rw [if_pos (by assumption)] | rw [if_neg (by assumption)])), rfl⟩)

set_option maxHeartbeats 4000000 in
set_option maxRecDepth 100000 in
theorem kt_argAt {X : Nat × (Nat → Int32)} {M : Mem} {al : Bool} {fr : Nat} {t : Nat} (ht : IsT M t) (hn : M.2.2.1 t 2 ≤ 200) (i : Int32) : AM yX9_argAt cX9_argAt 2 (some .int) al fr 0 0 X [.ref t, .int i] M (fun v M1 => v = some (.int (if i < 0 then -1 else if M.2.2.1 t 2 ≤ i then -1 else M.2.2.1 (t + 2) i.toNatClampNeg)) ∧ M1 = M) := by
  refine AM.of false (by decide +kernel) (by first | (intro _; rfl) | (intro h; cases h)) (Nat.le_of_ble_eq_true rfl) ?_
  show AW X (RX9, cX9_argAt, 2, (some .int), false, al, fr) 0 0 0 [(0, .ref t), (1, .int i)] [] M _
  refine a_iload_n dX9_argAt_0 rfl rfl ?_
  refine a_if_lt 21 dX9_argAt_1 (by decide) (fun c1 => ?_) (fun c1 => ?_)
  · refine a_iconst (v := -1) dX9_argAt_21 (by decide) ?_
    exact a_iret dX9_argAt_22 rfl (⟨by solve | rfl | (repeat (first | rw [if_pos (by assumption)] | rw [if_neg (by assumption)])), rfl⟩)
  · refine a_iload_n dX9_argAt_4 rfl rfl ?_
    refine a_aload_n dX9_argAt_5 rfl rfl ?_
    refine a_get (v := .int (M.2.2.1 t 2)) dX9_argAt_6 fl_9_18 ht.1 ht.2.2.2.1 rfl ?_
    refine a_icmp_ge 21 dX9_argAt_9 (by decide) (fun c2 => ?_) (fun c2 => ?_)
    · refine a_iconst (v := -1) dX9_argAt_21 (by decide) ?_
      exact a_iret dX9_argAt_22 rfl (⟨by solve | rfl | (repeat (first | rw [if_pos (by assumption)] | rw [if_neg (by assumption)])), rfl⟩)
    · refine a_aload_n dX9_argAt_12 rfl rfl ?_
      refine a_get (v := .ref (t + 2)) dX9_argAt_13 fl_9_15 ht.1 ht.2.2.2.1 ht.2.2.2.2.2.2.2 ?_
      refine a_iload_n dX9_argAt_16 rfl rfl ?_
      refine a_iaload dX9_argAt_17 ht.2.2.1 ht.2.2.2.2.2.1 (vin_le (by assumption) (by assumption) hn) ?_
      refine a_goto 22 dX9_argAt_18 (by decide) ?_
      exact a_iret dX9_argAt_22 rfl (⟨by solve | rfl | (repeat (first | rw [if_pos (by assumption)] | rw [if_neg (by assumption)])), rfl⟩)

set_option maxHeartbeats 4000000 in
set_option maxRecDepth 100000 in
theorem kt_clear {X : Nat × (Nat → Int32)} {M : Mem} {al : Bool} {fr : Nat} {t : Nat} (ht : IsT M t) : AM yX9_clear cX9_clear 1 none al fr 0 0 X [.ref t] M (fun v M1 => v = none ∧ M1 = wI (wI M t 2 0) t 3 0) := by
  refine AM.of false (by decide +kernel) (by first | (intro _; rfl) | (intro h; cases h)) (Nat.le_of_ble_eq_true rfl) ?_
  show AW X (RX9, cX9_clear, 1, none, false, al, fr) 0 0 0 [(0, .ref t)] [] M _
  refine a_aload_n dX9_clear_0 rfl rfl ?_
  refine a_iconst (v := 0) dX9_clear_1 (by decide) ?_
  refine a_putI dX9_clear_2 (Or.inl ⟨fl_9_18, Or.inl rfl⟩) rfl ht.1 ht.2.2.2.1 rfl rfl ?_
  refine a_aload_n dX9_clear_5 rfl rfl ?_
  refine a_iconst (v := 0) dX9_clear_6 (by decide) ?_
  refine a_putI dX9_clear_7 (Or.inl ⟨fl_9_22, Or.inl rfl⟩) rfl ht.1 ht.2.2.2.1 rfl rfl ?_
  exact a_vret dX9_clear_10 rfl (⟨rfl, rfl⟩)

set_option maxHeartbeats 4000000 in
set_option maxRecDepth 100000 in
theorem kt_add {X : Nat × (Nat → Int32)} {M : Mem} {al : Bool} {fr : Nat} {t : Nat} (ht : IsT M t) (h0 : ¬ M.2.2.1 t 2 < 0) (p q : Int32) : AM yX9_add cX9_add 3 none al fr 0 0 X [.ref t, .int p, .int q] M (fun v M1 => v = none ∧ M1 = if M.2.2.1 t 2 < 200 then wI (wI (wI M (t + 1) (M.2.2.1 t 2).toNatClampNeg p) (t + 2) (M.2.2.1 t 2).toNatClampNeg q) t 2 (M.2.2.1 t 2 + 1) else wI M t 3 1) := by
  refine AM.of false (by decide +kernel) (by first | (intro _; rfl) | (intro h; cases h)) (Nat.le_of_ble_eq_true rfl) ?_
  show AW X (RX9, cX9_add, 3, none, false, al, fr) 0 0 0 [(0, .ref t), (1, .int p), (2, .int q)] [] M _
  refine a_aload_n dX9_add_0 rfl rfl ?_
  refine a_get (v := .int (M.2.2.1 t 2)) dX9_add_1 fl_9_18 ht.1 ht.2.2.2.1 rfl ?_
  refine a_sipush (v := 200) dX9_add_4 (by decide) ?_
  refine a_icmp_lt 16 dX9_add_7 (by decide) (fun c1 => ?_) (fun c1 => ?_)
  · refine a_aload_n dX9_add_16 rfl rfl ?_
    refine a_get (v := .ref (t + 1)) dX9_add_17 fl_9_9 ht.1 ht.2.2.2.1 ht.2.2.2.2.2.2.1 ?_
    refine a_aload_n dX9_add_20 rfl rfl ?_
    refine a_get (v := .int (M.2.2.1 t 2)) dX9_add_21 fl_9_18 ht.1 ht.2.2.2.1 rfl ?_
    refine a_iload_n dX9_add_24 rfl rfl ?_
    refine a_iastore dX9_add_25 ht.2.1 ht.2.2.2.2.1 (vin_of (m := 200) h0 (Int32.not_le.mpr (by assumption))) ?_
    refine a_aload_n dX9_add_26 rfl rfl ?_
    refine a_get (v := .ref (t + 2)) dX9_add_27 fl_9_15 ht.1 ht.2.2.2.1 ht.2.2.2.2.2.2.2 ?_
    refine a_aload_n dX9_add_30 rfl rfl ?_
    refine a_get (v := .int (M.2.2.1 t 2)) dX9_add_31 fl_9_18 ht.1 ht.2.2.2.1 ((gvI_a (by omega)).trans (rfl)) ?_
    refine a_iload_n dX9_add_34 rfl rfl ?_
    refine a_iastore dX9_add_35 ht.2.2.1 ht.2.2.2.2.2.1 (vin_of (m := 200) h0 (Int32.not_le.mpr (by assumption))) ?_
    refine a_aload_n dX9_add_36 rfl rfl ?_
    refine a_dup dX9_add_37 rfl ?_
    refine a_get (v := .int (M.2.2.1 t 2)) dX9_add_38 fl_9_18 ht.1 ht.2.2.2.1 ((gvI_a (by omega)).trans ((gvI_a (by omega)).trans (rfl))) ?_
    refine a_iconst (v := 1) dX9_add_41 (by decide) ?_
    refine a_iadd dX9_add_42 ?_
    refine a_putI dX9_add_43 (Or.inl ⟨fl_9_18, Or.inl rfl⟩) rfl ht.1 ht.2.2.2.1 rfl rfl ?_
    exact a_vret dX9_add_46 rfl (⟨rfl, by solve | rfl | (repeat (first | rw [if_pos (by assumption)] | rw [if_neg (by assumption)]))⟩)
  · refine a_aload_n dX9_add_10 rfl rfl ?_
    refine a_iconst (v := 1) dX9_add_11 (by decide) ?_
    refine a_putI dX9_add_12 (Or.inl ⟨fl_9_22, Or.inl rfl⟩) rfl ht.1 ht.2.2.2.1 rfl rfl ?_
    exact a_vret dX9_add_15 rfl (⟨rfl, by solve | rfl | (repeat (first | rw [if_pos (by assumption)] | rw [if_neg (by assumption)]))⟩)

