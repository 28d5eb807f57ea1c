/-! TERMS, at any place t: rows of words at t + 1, of arguments at t + 2 -/
def IsT (M : Mem) (t : Nat) : Prop := t < M.1 ∧ t + 1 < M.1 ∧ t + 2 < M.1 ∧ M.2.1 t = .inr 9 ∧ M.2.1 (t + 1) = .inl (1, 200) ∧ M.2.1 (t + 2) = .inl (1, 200) ∧ gv M 9 t 0 = .ref (t + 1) ∧ gv M 9 t 1 = .ref (t + 2)
set_option maxHeartbeats 4000000 in
set_option maxRecDepth 100000 in
theorem kt_opAt {X : Nat × (Nat → Int32)} {M : Mem} {al : Bool} {fr : Nat} {t : Nat} (ht : IsT M t) (hn : M.2.2.1 t 2 ≤ 200) (i : Int32) : AM yX9_opAt cX9_opAt 2 (some .int) al fr 0 0 X [.ref t, .int i] M (fun v M1 => v = some (.int (if i < 0 then -1 else if M.2.2.1 t 2 ≤ i then -1 else M.2.2.1 (t + 1) i.toNatClampNeg)) ∧ M1 = M) := by
  refine AM.of false (by decide +kernel) (by first | (intro _; rfl) | (intro h; cases h)) (Nat.le_of_ble_eq_true rfl) ?_
  show AW X (RX9, cX9_opAt, 2, (some .int), false, al, fr) 0 0 0 [(0, .ref t), (1, .int i)] [] M _
  refine a_iload_n dX9_opAt_0 rfl rfl ?_
  refine a_if_lt 21 dX9_opAt_1 (by decide) (fun c1 => ?_) (fun c1 => ?_)
  · refine a_iconst (v := -1) dX9_opAt_21 (by decide) ?_
    exact a_iret dX9_opAt_22 rfl (⟨by solve | rfl | (repeat (first | rw [if_pos (by assumption)] | rw [if_neg (by assumption)])), rfl⟩)
  · refine a_iload_n dX9_opAt_4 rfl rfl ?_
    refine a_aload_n dX9_opAt_5 rfl rfl ?_
    refine a_get (v := .int (M.2.2.1 t 2)) dX9_opAt_6 fl_9_18 ht.1 ht.2.2.2.1 rfl ?_
    refine a_icmp_ge 21 dX9_opAt_9 (by decide) (fun c2 => ?_) (fun c2 => ?_)
    · refine a_iconst (v := -1) dX9_opAt_21 (by decide) ?_
      exact a_iret dX9_opAt_22 rfl (⟨by solve | rfl | (repeat (first | rw [if_pos (by assumption)] | rw [if_neg (by assumption)])), rfl⟩)
    · refine a_aload_n dX9_opAt_12 rfl rfl ?_
      refine a_get (v := .ref (t + 1)) dX9_opAt_13 fl_9_9 ht.1 ht.2.2.2.1 ht.2.2.2.2.2.2.1 ?_
      refine a_iload_n dX9_opAt_16 rfl rfl ?_
      refine a_iaload dX9_opAt_17 ht.2.1 ht.2.2.2.2.1 (vin_le (by assumption) (by assumption) hn) ?_
      refine a_goto 22 dX9_opAt_18 (by decide) ?_
      exact a_iret dX9_opAt_22 rfl (⟨by solve | rfl | (repeat (first | rw [if_pos (by assumption)] | rw [if_neg (by assumption)])), rfl⟩)

set_option maxHeartbeats 4000000 in
set_option maxRecDepth 100000 in
theorem kt_argAt {X : Nat × (Nat → Int32)} {M : Mem} {al : Bool} {fr : Nat} {t : Nat} (ht : IsT M t) (hn : M.2.2.1 t 2 ≤ 200) (i : Int32) : AM yX9_argAt cX9_argAt 2 (some .int) al fr 0 0 X [.ref t, .int i] M (fun v M1 => v = some (.int (if i < 0 then -1 else if M.2.2.1 t 2 ≤ i then -1 else M.2.2.1 (t + 2) i.toNatClampNeg)) ∧ M1 = M) := by
  refine AM.of false (by decide +kernel) (by first | (intro _; rfl) | (intro h; cases h)) (Nat.le_of_ble_eq_true rfl) ?_
  show AW X (RX9, cX9_argAt, 2, (some .int), false, al, fr) 0 0 0 [(0, .ref t), (1, .int i)] [] M _
  refine a_iload_n dX9_argAt_0 rfl rfl ?_
  refine a_if_lt 21 dX9_argAt_1 (by decide) (fun c1 => ?_) (fun c1 => ?_)
  · refine a_iconst (v := -1) dX9_argAt_21 (by decide) ?_
    exact a_iret dX9_argAt_22 rfl (⟨by solve | rfl | (repeat (first | rw [if_pos (by assumption)] | rw [if_neg (by assumption)])), rfl⟩)
  · refine a_iload_n dX9_argAt_4 rfl rfl ?_
    refine a_aload_n dX9_argAt_5 rfl rfl ?_
    refine a_get (v := .int (M.2.2.1 t 2)) dX9_argAt_6 fl_9_18 ht.1 ht.2.2.2.1 rfl ?_
    refine a_icmp_ge 21 dX9_argAt_9 (by decide) (fun c2 => ?_) (fun c2 => ?_)
    · refine a_iconst (v := -1) dX9_argAt_21 (by decide) ?_
      exact a_iret dX9_argAt_22 rfl (⟨by solve | rfl | (repeat (first | rw [if_pos (by assumption)] | rw [if_neg (by assumption)])), rfl⟩)
    · refine a_aload_n dX9_argAt_12 rfl rfl ?_
      refine a_get (v := .ref (t + 2)) dX9_argAt_13 fl_9_15 ht.1 ht.2.2.2.1 ht.2.2.2.2.2.2.2 ?_
      refine a_iload_n dX9_argAt_16 rfl rfl ?_
      refine a_iaload dX9_argAt_17 ht.2.2.1 ht.2.2.2.2.2.1 (vin_le (by assumption) (by assumption) hn) ?_
      refine a_goto 22 dX9_argAt_18 (by decide) ?_
      exact a_iret dX9_argAt_22 rfl (⟨by solve | rfl | (repeat (first | rw [if_pos (by assumption)] | rw [if_neg (by assumption)])), rfl⟩)

set_option maxHeartbeats 4000000 in
set_option maxRecDepth 100000 in
theorem kt_clear {X : Nat × (Nat → Int32)} {M : Mem} {al : Bool} {fr : Nat} {t : Nat} (ht : IsT M t) : AM yX9_clear cX9_clear 1 none al fr 0 0 X [.ref t] M (fun v M1 => v = none ∧ M1 = wI (wI M t 2 0) t 3 0) := by
  refine AM.of false (by decide +kernel) (by first | (intro _; rfl) | (intro h; cases h)) (Nat.le_of_ble_eq_true rfl) ?_
  show AW X (RX9, cX9_clear, 1, none, false, al, fr) 0 0 0 [(0, .ref t)] [] M _
  refine a_aload_n dX9_clear_0 rfl rfl ?_
  refine a_iconst (v := 0) dX9_clear_1 (by decide) ?_
  refine a_putI dX9_clear_2 (Or.inl ⟨fl_9_18, Or.inl rfl⟩) rfl ht.1 ht.2.2.2.1 rfl rfl ?_
  refine a_aload_n dX9_clear_5 rfl rfl ?_
  refine a_iconst (v := 0) dX9_clear_6 (by decide) ?_
  refine a_putI dX9_clear_7 (Or.inl ⟨fl_9_22, Or.inl rfl⟩) rfl ht.1 ht.2.2.2.1 rfl rfl ?_
  exact a_vret dX9_clear_10 rfl (⟨rfl, rfl⟩)

