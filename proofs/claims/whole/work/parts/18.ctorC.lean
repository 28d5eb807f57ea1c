set_option maxHeartbeats 4000000 in
set_option maxRecDepth 100000 in
theorem b_X9_init_25_26 {X : Nat × (Nat → Int32)} {fr : Nat} {M : Mem} (h0 : Cw 26 Lj26 fs30 gs31 M) : AM yX9_init cX9_init 1 none true (fr + 5) 2 400 X [.ref 25] M (fun v M1 => v = none ∧ Cw 28 Lj28 fs30 gs31 M1) := by
  refine AM.of true (by decide +kernel) (by first | (intro _; rfl) | (intro h; cases h)) (Nat.le_of_ble_eq_true rfl) ?_
  show AW X (RX9, cX9_init, 1, none, true, true, fr + 5) 2 400 0 [(0, .ref 25)] [] M _
  refine a_aload_n dX9_init_0 rfl rfl ?_
  refine a_objInit dX9_init_1 oi_X9 oi_i oi_c (Nat.le_add_left 1 (fr + 4)) (Nat.le_of_ble_eq_true rfl) ?_
  refine a_aload_n dX9_init_4 rfl rfl ?_
  refine a_sipush (v := 200) dX9_init_5 (by decide) ?_
  refine a_newarray (t := 1) (n := 200) (at_ := .int) (ty := .int) (bc := 1) (bs := 200) (Or.inr (Or.inl ⟨rfl, rfl, rfl⟩)) dX9_init_8 rfl ay_int (by decide) (by decide) (by decide) (by rw [h0.1]; decide) (by rw [h0.1]; decide) ?_
  rw [h0.1]
  have h1 : Cw 27 Lj26 fs30 gs31 (nA M 1 200) := cw_nA h0 rfl
  generalize (nA M 1 200) = M1 at h1 ⊢
  refine a_putR dX9_init_10 (Or.inl ⟨fl_9_9, Or.inr ⟨rfl, rfl, rfl⟩⟩) rfl (cw_l h1 (by decide)) (cw_s h1 (by decide) rfl) ?_
  have h2 : Cw 27 Lj27 fs30 gs31 (wR M1 25 0 (some 26)) := cw_R h1 (by decide) (by decide +kernel)
  generalize (wR M1 25 0 (some 26)) = M2 at h2 ⊢
  refine a_aload_n dX9_init_13 rfl rfl ?_
  refine a_sipush (v := 200) dX9_init_14 (by decide) ?_
  refine a_newarray (t := 1) (n := 200) (at_ := .int) (ty := .int) (bc := 0) (bs := 0) (Or.inr (Or.inl ⟨rfl, rfl, rfl⟩)) dX9_init_17 rfl ay_int (by decide) (by decide) (by decide) (by rw [h2.1]; decide) (by rw [h2.1]; decide) ?_
  rw [h2.1]
  have h3 : Cw 28 Lj27 fs30 gs31 (nA M2 1 200) := cw_nA h2 rfl
  generalize (nA M2 1 200) = M3 at h3 ⊢
  refine a_putR dX9_init_19 (Or.inl ⟨fl_9_15, Or.inr ⟨rfl, rfl, rfl⟩⟩) rfl (cw_l h3 (by decide)) (cw_s h3 (by decide) rfl) ?_
  have h4 : Cw 28 Lj28 fs30 gs31 (wR M3 25 1 (some 27)) := cw_R h3 (by decide) (by decide +kernel)
  generalize (wR M3 25 1 (some 27)) = M4 at h4 ⊢
  exact a_vret dX9_init_22 rfl ⟨rfl, h4⟩
set_option maxHeartbeats 4000000 in
set_option maxRecDepth 100000 in
theorem b_X9_init_28_29 {X : Nat × (Nat → Int32)} {fr : Nat} {M : Mem} (h0 : Cw 29 Lj29 fs30 gs31 M) : AM yX9_init cX9_init 1 none true (fr + 5) 2 400 X [.ref 28] M (fun v M1 => v = none ∧ Cw 31 Lj31 fs30 gs31 M1) := by
  refine AM.of true (by decide +kernel) (by first | (intro _; rfl) | (intro h; cases h)) (Nat.le_of_ble_eq_true rfl) ?_
  show AW X (RX9, cX9_init, 1, none, true, true, fr + 5) 2 400 0 [(0, .ref 28)] [] M _
  refine a_aload_n dX9_init_0 rfl rfl ?_
  refine a_objInit dX9_init_1 oi_X9 oi_i oi_c (Nat.le_add_left 1 (fr + 4)) (Nat.le_of_ble_eq_true rfl) ?_
  refine a_aload_n dX9_init_4 rfl rfl ?_
  refine a_sipush (v := 200) dX9_init_5 (by decide) ?_
  refine a_newarray (t := 1) (n := 200) (at_ := .int) (ty := .int) (bc := 1) (bs := 200) (Or.inr (Or.inl ⟨rfl, rfl, rfl⟩)) dX9_init_8 rfl ay_int (by decide) (by decide) (by decide) (by rw [h0.1]; decide) (by rw [h0.1]; decide) ?_
  rw [h0.1]
  have h1 : Cw 30 Lj29 fs30 gs31 (nA M 1 200) := cw_nA h0 rfl
  generalize (nA M 1 200) = M1 at h1 ⊢
  refine a_putR dX9_init_10 (Or.inl ⟨fl_9_9, Or.inr ⟨rfl, rfl, rfl⟩⟩) rfl (cw_l h1 (by decide)) (cw_s h1 (by decide) rfl) ?_
  have h2 : Cw 30 Lj30 fs30 gs31 (wR M1 28 0 (some 29)) := cw_R h1 (by decide) (by decide +kernel)
  generalize (wR M1 28 0 (some 29)) = M2 at h2 ⊢
  refine a_aload_n dX9_init_13 rfl rfl ?_
  refine a_sipush (v := 200) dX9_init_14 (by decide) ?_
  refine a_newarray (t := 1) (n := 200) (at_ := .int) (ty := .int) (bc := 0) (bs := 0) (Or.inr (Or.inl ⟨rfl, rfl, rfl⟩)) dX9_init_17 rfl ay_int (by decide) (by decide) (by decide) (by rw [h2.1]; decide) (by rw [h2.1]; decide) ?_
  rw [h2.1]
  have h3 : Cw 31 Lj30 fs30 gs31 (nA M2 1 200) := cw_nA h2 rfl
  generalize (nA M2 1 200) = M3 at h3 ⊢
  refine a_putR dX9_init_19 (Or.inl ⟨fl_9_15, Or.inr ⟨rfl, rfl, rfl⟩⟩) rfl (cw_l h3 (by decide)) (cw_s h3 (by decide) rfl) ?_
  have h4 : Cw 31 Lj31 fs30 gs31 (wR M3 28 1 (some 30)) := cw_R h3 (by decide) (by decide +kernel)
  generalize (wR M3 28 1 (some 30)) = M4 at h4 ⊢
  exact a_vret dX9_init_22 rfl ⟨rfl, h4⟩
set_option maxHeartbeats 4000000 in
set_option maxRecDepth 100000 in
theorem b_X9_init_31_32 {X : Nat × (Nat → Int32)} {fr : Nat} {M : Mem} (h0 : Cw 32 Lj32 fs30 gs31 M) : AM yX9_init cX9_init 1 none true (fr + 5) 2 400 X [.ref 31] M (fun v M1 => v = none ∧ Cw 34 Lj34 fs30 gs31 M1) := by
  refine AM.of true (by decide +kernel) (by first | (intro _; rfl) | (intro h; cases h)) (Nat.le_of_ble_eq_true rfl) ?_
  show AW X (RX9, cX9_init, 1, none, true, true, fr + 5) 2 400 0 [(0, .ref 31)] [] M _
  refine a_aload_n dX9_init_0 rfl rfl ?_
  refine a_objInit dX9_init_1 oi_X9 oi_i oi_c (Nat.le_add_left 1 (fr + 4)) (Nat.le_of_ble_eq_true rfl) ?_
  refine a_aload_n dX9_init_4 rfl rfl ?_
  refine a_sipush (v := 200) dX9_init_5 (by decide) ?_
  refine a_newarray (t := 1) (n := 200) (at_ := .int) (ty := .int) (bc := 1) (bs := 200) (Or.inr (Or.inl ⟨rfl, rfl, rfl⟩)) dX9_init_8 rfl ay_int (by decide) (by decide) (by decide) (by rw [h0.1]; decide) (by rw [h0.1]; decide) ?_
  rw [h0.1]
  have h1 : Cw 33 Lj32 fs30 gs31 (nA M 1 200) := cw_nA h0 rfl
  generalize (nA M 1 200) = M1 at h1 ⊢
  refine a_putR dX9_init_10 (Or.inl ⟨fl_9_9, Or.inr ⟨rfl, rfl, rfl⟩⟩) rfl (cw_l h1 (by decide)) (cw_s h1 (by decide) rfl) ?_
  have h2 : Cw 33 Lj33 fs30 gs31 (wR M1 31 0 (some 32)) := cw_R h1 (by decide) (by decide +kernel)
  generalize (wR M1 31 0 (some 32)) = M2 at h2 ⊢
  refine a_aload_n dX9_init_13 rfl rfl ?_
  refine a_sipush (v := 200) dX9_init_14 (by decide) ?_
  refine a_newarray (t := 1) (n := 200) (at_ := .int) (ty := .int) (bc := 0) (bs := 0) (Or.inr (Or.inl ⟨rfl, rfl, rfl⟩)) dX9_init_17 rfl ay_int (by decide) (by decide) (by decide) (by rw [h2.1]; decide) (by rw [h2.1]; decide) ?_
  rw [h2.1]
  have h3 : Cw 34 Lj33 fs30 gs31 (nA M2 1 200) := cw_nA h2 rfl
  generalize (nA M2 1 200) = M3 at h3 ⊢
  refine a_putR dX9_init_19 (Or.inl ⟨fl_9_15, Or.inr ⟨rfl, rfl, rfl⟩⟩) rfl (cw_l h3 (by decide)) (cw_s h3 (by decide) rfl) ?_
  have h4 : Cw 34 Lj34 fs30 gs31 (wR M3 31 1 (some 33)) := cw_R h3 (by decide) (by decide +kernel)
  generalize (wR M3 31 1 (some 33)) = M4 at h4 ⊢
  exact a_vret dX9_init_22 rfl ⟨rfl, h4⟩
set_option maxHeartbeats 4000000 in
set_option maxRecDepth 100000 in
theorem b_X9_init_34_35 {X : Nat × (Nat → Int32)} {fr : Nat} {M : Mem} (h0 : Cw 35 Lj35 fs30 gs31 M) : AM yX9_init cX9_init 1 none true (fr + 5) 2 400 X [.ref 34] M (fun v M1 => v = none ∧ Cw 37 Lj37 fs30 gs31 M1) := by
  refine AM.of true (by decide +kernel) (by first | (intro _; rfl) | (intro h; cases h)) (Nat.le_of_ble_eq_true rfl) ?_
  show AW X (RX9, cX9_init, 1, none, true, true, fr + 5) 2 400 0 [(0, .ref 34)] [] M _
  refine a_aload_n dX9_init_0 rfl rfl ?_
  refine a_objInit dX9_init_1 oi_X9 oi_i oi_c (Nat.le_add_left 1 (fr + 4)) (Nat.le_of_ble_eq_true rfl) ?_
  refine a_aload_n dX9_init_4 rfl rfl ?_
  refine a_sipush (v := 200) dX9_init_5 (by decide) ?_
  refine a_newarray (t := 1) (n := 200) (at_ := .int) (ty := .int) (bc := 1) (bs := 200) (Or.inr (Or.inl ⟨rfl, rfl, rfl⟩)) dX9_init_8 rfl ay_int (by decide) (by decide) (by decide) (by rw [h0.1]; decide) (by rw [h0.1]; decide) ?_
  rw [h0.1]
  have h1 : Cw 36 Lj35 fs30 gs31 (nA M 1 200) := cw_nA h0 rfl
  generalize (nA M 1 200) = M1 at h1 ⊢
  refine a_putR dX9_init_10 (Or.inl ⟨fl_9_9, Or.inr ⟨rfl, rfl, rfl⟩⟩) rfl (cw_l h1 (by decide)) (cw_s h1 (by decide) rfl) ?_
  have h2 : Cw 36 Lj36 fs30 gs31 (wR M1 34 0 (some 35)) := cw_R h1 (by decide) (by decide +kernel)
  generalize (wR M1 34 0 (some 35)) = M2 at h2 ⊢
  refine a_aload_n dX9_init_13 rfl rfl ?_
  refine a_sipush (v := 200) dX9_init_14 (by decide) ?_
  refine a_newarray (t := 1) (n := 200) (at_ := .int) (ty := .int) (bc := 0) (bs := 0) (Or.inr (Or.inl ⟨rfl, rfl, rfl⟩)) dX9_init_17 rfl ay_int (by decide) (by decide) (by decide) (by rw [h2.1]; decide) (by rw [h2.1]; decide) ?_
  rw [h2.1]
  have h3 : Cw 37 Lj36 fs30 gs31 (nA M2 1 200) := cw_nA h2 rfl
  generalize (nA M2 1 200) = M3 at h3 ⊢
  refine a_putR dX9_init_19 (Or.inl ⟨fl_9_15, Or.inr ⟨rfl, rfl, rfl⟩⟩) rfl (cw_l h3 (by decide)) (cw_s h3 (by decide) rfl) ?_
  have h4 : Cw 37 Lj37 fs30 gs31 (wR M3 34 1 (some 36)) := cw_R h3 (by decide) (by decide +kernel)
  generalize (wR M3 34 1 (some 36)) = M4 at h4 ⊢
  exact a_vret dX9_init_22 rfl ⟨rfl, h4⟩
set_option maxHeartbeats 4000000 in
set_option maxRecDepth 100000 in
theorem b_X9_init_37_38 {X : Nat × (Nat → Int32)} {fr : Nat} {M : Mem} (h0 : Cw 38 Lj38 fs30 gs31 M) : AM yX9_init cX9_init 1 none true (fr + 5) 2 400 X [.ref 37] M (fun v M1 => v = none ∧ Cw 40 Lj40 fs30 gs31 M1) := by
  refine AM.of true (by decide +kernel) (by first | (intro _; rfl) | (intro h; cases h)) (Nat.le_of_ble_eq_true rfl) ?_
  show AW X (RX9, cX9_init, 1, none, true, true, fr + 5) 2 400 0 [(0, .ref 37)] [] M _
  refine a_aload_n dX9_init_0 rfl rfl ?_
  refine a_objInit dX9_init_1 oi_X9 oi_i oi_c (Nat.le_add_left 1 (fr + 4)) (Nat.le_of_ble_eq_true rfl) ?_
  refine a_aload_n dX9_init_4 rfl rfl ?_
  refine a_sipush (v := 200) dX9_init_5 (by decide) ?_
  refine a_newarray (t := 1) (n := 200) (at_ := .int) (ty := .int) (bc := 1) (bs := 200) (Or.inr (Or.inl ⟨rfl, rfl, rfl⟩)) dX9_init_8 rfl ay_int (by decide) (by decide) (by decide) (by rw [h0.1]; decide) (by rw [h0.1]; decide) ?_
  rw [h0.1]
  have h1 : Cw 39 Lj38 fs30 gs31 (nA M 1 200) := cw_nA h0 rfl
  generalize (nA M 1 200) = M1 at h1 ⊢
  refine a_putR dX9_init_10 (Or.inl ⟨fl_9_9, Or.inr ⟨rfl, rfl, rfl⟩⟩) rfl (cw_l h1 (by decide)) (cw_s h1 (by decide) rfl) ?_
  have h2 : Cw 39 Lj39 fs30 gs31 (wR M1 37 0 (some 38)) := cw_R h1 (by decide) (by decide +kernel)
  generalize (wR M1 37 0 (some 38)) = M2 at h2 ⊢
  refine a_aload_n dX9_init_13 rfl rfl ?_
  refine a_sipush (v := 200) dX9_init_14 (by decide) ?_
  refine a_newarray (t := 1) (n := 200) (at_ := .int) (ty := .int) (bc := 0) (bs := 0) (Or.inr (Or.inl ⟨rfl, rfl, rfl⟩)) dX9_init_17 rfl ay_int (by decide) (by decide) (by decide) (by rw [h2.1]; decide) (by rw [h2.1]; decide) ?_
  rw [h2.1]
  have h3 : Cw 40 Lj39 fs30 gs31 (nA M2 1 200) := cw_nA h2 rfl
  generalize (nA M2 1 200) = M3 at h3 ⊢
  refine a_putR dX9_init_19 (Or.inl ⟨fl_9_15, Or.inr ⟨rfl, rfl, rfl⟩⟩) rfl (cw_l h3 (by decide)) (cw_s h3 (by decide) rfl) ?_
  have h4 : Cw 40 Lj40 fs30 gs31 (wR M3 37 1 (some 39)) := cw_R h3 (by decide) (by decide +kernel)
  generalize (wR M3 37 1 (some 39)) = M4 at h4 ⊢
  exact a_vret dX9_init_22 rfl ⟨rfl, h4⟩
set_option maxHeartbeats 4000000 in
set_option maxRecDepth 100000 in
theorem b_X9_init_50_51 {X : Nat × (Nat → Int32)} {fr : Nat} {M : Mem} (h0 : Cw 51 Lj52 fs30 gs31 M) : AM yX9_init cX9_init 1 none true (fr + 4) 2 400 X [.ref 50] M (fun v M1 => v = none ∧ Cw 53 Lj54 fs30 gs31 M1) := by
  refine AM.of true (by decide +kernel) (by first | (intro _; rfl) | (intro h; cases h)) (Nat.le_of_ble_eq_true rfl) ?_
  show AW X (RX9, cX9_init, 1, none, true, true, fr + 4) 2 400 0 [(0, .ref 50)] [] M _
  refine a_aload_n dX9_init_0 rfl rfl ?_
  refine a_objInit dX9_init_1 oi_X9 oi_i oi_c (Nat.le_add_left 1 (fr + 3)) (Nat.le_of_ble_eq_true rfl) ?_
  refine a_aload_n dX9_init_4 rfl rfl ?_
  refine a_sipush (v := 200) dX9_init_5 (by decide) ?_
  refine a_newarray (t := 1) (n := 200) (at_ := .int) (ty := .int) (bc := 1) (bs := 200) (Or.inr (Or.inl ⟨rfl, rfl, rfl⟩)) dX9_init_8 rfl ay_int (by decide) (by decide) (by decide) (by rw [h0.1]; decide) (by rw [h0.1]; decide) ?_
  rw [h0.1]
  have h1 : Cw 52 Lj52 fs30 gs31 (nA M 1 200) := cw_nA h0 rfl
  generalize (nA M 1 200) = M1 at h1 ⊢
  refine a_putR dX9_init_10 (Or.inl ⟨fl_9_9, Or.inr ⟨rfl, rfl, rfl⟩⟩) rfl (cw_l h1 (by decide)) (cw_s h1 (by decide) rfl) ?_
  have h2 : Cw 52 Lj53 fs30 gs31 (wR M1 50 0 (some 51)) := cw_R h1 (by decide) (by decide +kernel)
  generalize (wR M1 50 0 (some 51)) = M2 at h2 ⊢
  refine a_aload_n dX9_init_13 rfl rfl ?_
  refine a_sipush (v := 200) dX9_init_14 (by decide) ?_
  refine a_newarray (t := 1) (n := 200) (at_ := .int) (ty := .int) (bc := 0) (bs := 0) (Or.inr (Or.inl ⟨rfl, rfl, rfl⟩)) dX9_init_17 rfl ay_int (by decide) (by decide) (by decide) (by rw [h2.1]; decide) (by rw [h2.1]; decide) ?_
  rw [h2.1]
  have h3 : Cw 53 Lj53 fs30 gs31 (nA M2 1 200) := cw_nA h2 rfl
  generalize (nA M2 1 200) = M3 at h3 ⊢
  refine a_putR dX9_init_19 (Or.inl ⟨fl_9_15, Or.inr ⟨rfl, rfl, rfl⟩⟩) rfl (cw_l h3 (by decide)) (cw_s h3 (by decide) rfl) ?_
  have h4 : Cw 53 Lj54 fs30 gs31 (wR M3 50 1 (some 52)) := cw_R h3 (by decide) (by decide +kernel)
  generalize (wR M3 50 1 (some 52)) = M4 at h4 ⊢
  exact a_vret dX9_init_22 rfl ⟨rfl, h4⟩
set_option maxHeartbeats 4000000 in
set_option maxRecDepth 100000 in
theorem b_X3_init_40_41 {X : Nat × (Nat → Int32)} {fr : Nat} {M : Mem} (h0 : Cw 41 Lj41 fs30 gs31 M) : AM yX3_init cX3_init 3 none true (fr + 5) 12 2404 X [.ref 40, .ref 2, .ref 10] M (fun v M1 => v = none ∧ Cw 53 Lj55 fs30 gs31 M1) := by
  refine AM.of true (by decide +kernel) (by first | (intro _; rfl) | (intro h; cases h)) (Nat.le_of_ble_eq_true rfl) ?_
  show AW X (RX3, cX3_init, 3, none, true, true, fr + 5) 12 2404 0 [(0, .ref 40), (1, .ref 2), (2, .ref 10)] [] M _
  refine a_aload_n dX3_init_0 rfl rfl ?_
  refine a_objInit dX3_init_1 oi_X3 oi_i oi_c (Nat.le_add_left 1 (fr + 4)) (Nat.le_of_ble_eq_true rfl) ?_
  refine a_aload_n dX3_init_4 rfl rfl ?_
  refine a_sipush (v := 200) dX3_init_5 (by decide) ?_
  refine a_newarray (t := 1) (n := 200) (at_ := .int) (ty := .int) (bc := 11) (bs := 2204) (Or.inr (Or.inl ⟨rfl, rfl, rfl⟩)) dX3_init_8 rfl ay_int (by decide) (by decide) (by decide) (by rw [h0.1]; decide) (by rw [h0.1]; decide) ?_
  rw [h0.1]
  have h1 : Cw 42 Lj41 fs30 gs31 (nA M 1 200) := cw_nA h0 rfl
  generalize (nA M 1 200) = M1 at h1 ⊢
  refine a_putR dX3_init_10 (Or.inl ⟨fl_3_9, Or.inr ⟨rfl, rfl, rfl⟩⟩) rfl (cw_l h1 (by decide)) (cw_s h1 (by decide) rfl) ?_
  have h2 : Cw 42 Lj42 fs30 gs31 (wR M1 40 3 (some 41)) := cw_R h1 (by decide) (by decide +kernel)
  generalize (wR M1 40 3 (some 41)) = M2 at h2 ⊢
  refine a_aload_n dX3_init_13 rfl rfl ?_
  refine a_sipush (v := 200) dX3_init_14 (by decide) ?_
  refine a_newarray (t := 1) (n := 200) (at_ := .int) (ty := .int) (bc := 10) (bs := 2004) (Or.inr (Or.inl ⟨rfl, rfl, rfl⟩)) dX3_init_17 rfl ay_int (by decide) (by decide) (by decide) (by rw [h2.1]; decide) (by rw [h2.1]; decide) ?_
  rw [h2.1]
  have h3 : Cw 43 Lj42 fs30 gs31 (nA M2 1 200) := cw_nA h2 rfl
  generalize (nA M2 1 200) = M3 at h3 ⊢
  refine a_putR dX3_init_19 (Or.inl ⟨fl_3_15, Or.inr ⟨rfl, rfl, rfl⟩⟩) rfl (cw_l h3 (by decide)) (cw_s h3 (by decide) rfl) ?_
  have h4 : Cw 43 Lj43 fs30 gs31 (wR M3 40 4 (some 42)) := cw_R h3 (by decide) (by decide +kernel)
  generalize (wR M3 40 4 (some 42)) = M4 at h4 ⊢
  refine a_aload_n dX3_init_22 rfl rfl ?_
  refine a_sipush (v := 200) dX3_init_23 (by decide) ?_
  refine a_newarray (t := 1) (n := 200) (at_ := .int) (ty := .int) (bc := 9) (bs := 1804) (Or.inr (Or.inl ⟨rfl, rfl, rfl⟩)) dX3_init_26 rfl ay_int (by decide) (by decide) (by decide) (by rw [h4.1]; decide) (by rw [h4.1]; decide) ?_
  rw [h4.1]
  have h5 : Cw 44 Lj43 fs30 gs31 (nA M4 1 200) := cw_nA h4 rfl
  generalize (nA M4 1 200) = M5 at h5 ⊢
  refine a_putR dX3_init_28 (Or.inl ⟨fl_3_18, Or.inr ⟨rfl, rfl, rfl⟩⟩) rfl (cw_l h5 (by decide)) (cw_s h5 (by decide) rfl) ?_
  have h6 : Cw 44 Lj44 fs30 gs31 (wR M5 40 5 (some 43)) := cw_R h5 (by decide) (by decide +kernel)
  generalize (wR M5 40 5 (some 43)) = M6 at h6 ⊢
  refine a_aload_n dX3_init_31 rfl rfl ?_
  refine a_sipush (v := 200) dX3_init_32 (by decide) ?_
  refine a_newarray (t := 1) (n := 200) (at_ := .int) (ty := .int) (bc := 8) (bs := 1604) (Or.inr (Or.inl ⟨rfl, rfl, rfl⟩)) dX3_init_35 rfl ay_int (by decide) (by decide) (by decide) (by rw [h6.1]; decide) (by rw [h6.1]; decide) ?_
  rw [h6.1]
  have h7 : Cw 45 Lj44 fs30 gs31 (nA M6 1 200) := cw_nA h6 rfl
  generalize (nA M6 1 200) = M7 at h7 ⊢
  refine a_putR dX3_init_37 (Or.inl ⟨fl_3_21, Or.inr ⟨rfl, rfl, rfl⟩⟩) rfl (cw_l h7 (by decide)) (cw_s h7 (by decide) rfl) ?_
  have h8 : Cw 45 Lj45 fs30 gs31 (wR M7 40 6 (some 44)) := cw_R h7 (by decide) (by decide +kernel)
  generalize (wR M7 40 6 (some 44)) = M8 at h8 ⊢
  refine a_aload_n dX3_init_40 rfl rfl ?_
  refine a_sipush (v := 200) dX3_init_41 (by decide) ?_
  refine a_newarray (t := 1) (n := 200) (at_ := .int) (ty := .int) (bc := 7) (bs := 1404) (Or.inr (Or.inl ⟨rfl, rfl, rfl⟩)) dX3_init_44 rfl ay_int (by decide) (by decide) (by decide) (by rw [h8.1]; decide) (by rw [h8.1]; decide) ?_
  rw [h8.1]
  have h9 : Cw 46 Lj45 fs30 gs31 (nA M8 1 200) := cw_nA h8 rfl
  generalize (nA M8 1 200) = M9 at h9 ⊢
  refine a_putR dX3_init_46 (Or.inl ⟨fl_3_24, Or.inr ⟨rfl, rfl, rfl⟩⟩) rfl (cw_l h9 (by decide)) (cw_s h9 (by decide) rfl) ?_
  have h10 : Cw 46 Lj46 fs30 gs31 (wR M9 40 7 (some 45)) := cw_R h9 (by decide) (by decide +kernel)
  generalize (wR M9 40 7 (some 45)) = M10 at h10 ⊢
  refine a_aload_n dX3_init_49 rfl rfl ?_
  refine a_sipush (v := 200) dX3_init_50 (by decide) ?_
  refine a_newarray (t := 1) (n := 200) (at_ := .int) (ty := .int) (bc := 6) (bs := 1204) (Or.inr (Or.inl ⟨rfl, rfl, rfl⟩)) dX3_init_53 rfl ay_int (by decide) (by decide) (by decide) (by rw [h10.1]; decide) (by rw [h10.1]; decide) ?_
  rw [h10.1]
  have h11 : Cw 47 Lj46 fs30 gs31 (nA M10 1 200) := cw_nA h10 rfl
  generalize (nA M10 1 200) = M11 at h11 ⊢
  refine a_putR dX3_init_55 (Or.inl ⟨fl_3_27, Or.inr ⟨rfl, rfl, rfl⟩⟩) rfl (cw_l h11 (by decide)) (cw_s h11 (by decide) rfl) ?_
  have h12 : Cw 47 Lj47 fs30 gs31 (wR M11 40 8 (some 46)) := cw_R h11 (by decide) (by decide +kernel)
  generalize (wR M11 40 8 (some 46)) = M12 at h12 ⊢
  refine a_aload_n dX3_init_58 rfl rfl ?_
  refine a_sipush (v := 200) dX3_init_59 (by decide) ?_
  refine a_newarray (t := 1) (n := 200) (at_ := .int) (ty := .int) (bc := 5) (bs := 1004) (Or.inr (Or.inl ⟨rfl, rfl, rfl⟩)) dX3_init_62 rfl ay_int (by decide) (by decide) (by decide) (by rw [h12.1]; decide) (by rw [h12.1]; decide) ?_
  rw [h12.1]
  have h13 : Cw 48 Lj47 fs30 gs31 (nA M12 1 200) := cw_nA h12 rfl
  generalize (nA M12 1 200) = M13 at h13 ⊢
  refine a_putR dX3_init_64 (Or.inl ⟨fl_3_30, Or.inr ⟨rfl, rfl, rfl⟩⟩) rfl (cw_l h13 (by decide)) (cw_s h13 (by decide) rfl) ?_
  have h14 : Cw 48 Lj48 fs30 gs31 (wR M13 40 9 (some 47)) := cw_R h13 (by decide) (by decide +kernel)
  generalize (wR M13 40 9 (some 47)) = M14 at h14 ⊢
  refine a_aload_n dX3_init_67 rfl rfl ?_
  refine a_sipush (v := 200) dX3_init_68 (by decide) ?_
  refine a_newarray (t := 1) (n := 200) (at_ := .int) (ty := .int) (bc := 4) (bs := 804) (Or.inr (Or.inl ⟨rfl, rfl, rfl⟩)) dX3_init_71 rfl ay_int (by decide) (by decide) (by decide) (by rw [h14.1]; decide) (by rw [h14.1]; decide) ?_
  rw [h14.1]
  have h15 : Cw 49 Lj48 fs30 gs31 (nA M14 1 200) := cw_nA h14 rfl
  generalize (nA M14 1 200) = M15 at h15 ⊢
  refine a_putR dX3_init_73 (Or.inl ⟨fl_3_33, Or.inr ⟨rfl, rfl, rfl⟩⟩) rfl (cw_l h15 (by decide)) (cw_s h15 (by decide) rfl) ?_
  have h16 : Cw 49 Lj49 fs30 gs31 (wR M15 40 10 (some 48)) := cw_R h15 (by decide) (by decide +kernel)
  generalize (wR M15 40 10 (some 48)) = M16 at h16 ⊢
  refine a_aload_n dX3_init_76 rfl rfl ?_
  refine a_sipush (v := 400) dX3_init_77 (by decide) ?_
  refine a_newarray (t := 1) (n := 400) (at_ := .int) (ty := .int) (bc := 3) (bs := 404) (Or.inr (Or.inl ⟨rfl, rfl, rfl⟩)) dX3_init_80 rfl ay_int (by decide) (by decide) (by decide) (by rw [h16.1]; decide) (by rw [h16.1]; decide) ?_
  rw [h16.1]
  have h17 : Cw 50 Lj49 fs30 gs31 (nA M16 1 400) := cw_nA h16 rfl
  generalize (nA M16 1 400) = M17 at h17 ⊢
  refine a_putR dX3_init_82 (Or.inl ⟨fl_3_36, Or.inr ⟨rfl, rfl, rfl⟩⟩) rfl (cw_l h17 (by decide)) (cw_s h17 (by decide) rfl) ?_
  have h18 : Cw 50 Lj50 fs30 gs31 (wR M17 40 11 (some 49)) := cw_R h17 (by decide) (by decide +kernel)
  generalize (wR M17 40 11 (some 49)) = M18 at h18 ⊢
  refine a_aload_n dX3_init_85 rfl rfl ?_
  refine a_aload_n dX3_init_86 rfl rfl ?_
  refine a_putR dX3_init_87 (Or.inl ⟨fl_3_39, Or.inr ⟨rfl, rfl, rfl⟩⟩) rfl (cw_l h18 (by decide)) (cw_s h18 (by decide) rfl) ?_
  have h19 : Cw 50 Lj51 fs30 gs31 (wR M18 40 0 (some 2)) := cw_R h18 (by decide) (by decide +kernel)
  generalize (wR M18 40 0 (some 2)) = M19 at h19 ⊢
  refine a_aload_n dX3_init_90 rfl rfl ?_
  refine a_aload_n dX3_init_91 rfl rfl ?_
  refine a_putR dX3_init_92 (Or.inl ⟨fl_3_43, Or.inr ⟨rfl, rfl, rfl⟩⟩) rfl (cw_l h19 (by decide)) (cw_s h19 (by decide) rfl) ?_
  have h20 : Cw 50 Lj52 fs30 gs31 (wR M19 40 1 (some 10)) := cw_R h19 (by decide) (by decide +kernel)
  generalize (wR M19 40 1 (some 10)) = M20 at h20 ⊢
  refine a_aload_n dX3_init_95 rfl rfl ?_
  refine a_new (ci := 9) (bc := 2) (bs := 400) dX3_init_96 rfl (by decide) cl_X3_47 it_X9 ini_X9 (by rw [h20.1]; decide) (by rw [h20.1]; decide) ?_
  rw [h20.1]
  have h21 : Cw 51 Lj52 fs30 gs31 (nO M20 9) := cw_nO h20 rfl
  generalize (nO M20 9) = M21 at h21 ⊢
  refine a_dup dX3_init_99 rfl ?_
  refine a_callI (As := []) (st := [.ref 50, .ref 40]) (a := 50) (bc := 0) (bs := 0) (mc := 2) (ms := 400) true dX3_init_100 mw_X9_init rfl (Or.inr ⟨rfl, mn_X3_49⟩) im_X9_init rfl (cw_l h21 (by decide)) rfl (by decide) (b_X9_init_50_51 (fr := fr) h21) (fun v M22 hq => ?_)
  obtain ⟨rfl, h22⟩ := hq
  refine a_putR dX3_init_103 (Or.inl ⟨fl_3_50, Or.inl rfl⟩) rfl (cw_l h22 (by decide)) (cw_s h22 (by decide) rfl) ?_
  have h23 : Cw 53 Lj55 fs30 gs31 (wR M22 40 2 (some 50)) := cw_R h22 (by decide) (by decide +kernel)
  generalize (wR M22 40 2 (some 50)) = M23 at h23 ⊢
  exact a_vret dX3_init_106 rfl ⟨rfl, h23⟩
set_option maxHeartbeats 4000000 in
set_option maxRecDepth 100000 in
theorem b_X9_init_54_55 {X : Nat × (Nat → Int32)} {fr : Nat} {M : Mem} (h0 : Cw 55 Lj56 fs30 gs31 M) : AM yX9_init cX9_init 1 none true (fr + 4) 2 400 X [.ref 54] M (fun v M1 => v = none ∧ Cw 57 Lj58 fs30 gs31 M1) := by
  refine AM.of true (by decide +kernel) (by first | (intro _; rfl) | (intro h; cases h)) (Nat.le_of_ble_eq_true rfl) ?_
  show AW X (RX9, cX9_init, 1, none, true, true, fr + 4) 2 400 0 [(0, .ref 54)] [] M _
  refine a_aload_n dX9_init_0 rfl rfl ?_
  refine a_objInit dX9_init_1 oi_X9 oi_i oi_c (Nat.le_add_left 1 (fr + 3)) (Nat.le_of_ble_eq_true rfl) ?_
  refine a_aload_n dX9_init_4 rfl rfl ?_
  refine a_sipush (v := 200) dX9_init_5 (by decide) ?_
  refine a_newarray (t := 1) (n := 200) (at_ := .int) (ty := .int) (bc := 1) (bs := 200) (Or.inr (Or.inl ⟨rfl, rfl, rfl⟩)) dX9_init_8 rfl ay_int (by decide) (by decide) (by decide) (by rw [h0.1]; decide) (by rw [h0.1]; decide) ?_
  rw [h0.1]
  have h1 : Cw 56 Lj56 fs30 gs31 (nA M 1 200) := cw_nA h0 rfl
  generalize (nA M 1 200) = M1 at h1 ⊢
  refine a_putR dX9_init_10 (Or.inl ⟨fl_9_9, Or.inr ⟨rfl, rfl, rfl⟩⟩) rfl (cw_l h1 (by decide)) (cw_s h1 (by decide) rfl) ?_
  have h2 : Cw 56 Lj57 fs30 gs31 (wR M1 54 0 (some 55)) := cw_R h1 (by decide) (by decide +kernel)
  generalize (wR M1 54 0 (some 55)) = M2 at h2 ⊢
  refine a_aload_n dX9_init_13 rfl rfl ?_
  refine a_sipush (v := 200) dX9_init_14 (by decide) ?_
  refine a_newarray (t := 1) (n := 200) (at_ := .int) (ty := .int) (bc := 0) (bs := 0) (Or.inr (Or.inl ⟨rfl, rfl, rfl⟩)) dX9_init_17 rfl ay_int (by decide) (by decide) (by decide) (by rw [h2.1]; decide) (by rw [h2.1]; decide) ?_
  rw [h2.1]
  have h3 : Cw 57 Lj57 fs30 gs31 (nA M2 1 200) := cw_nA h2 rfl
  generalize (nA M2 1 200) = M3 at h3 ⊢
  refine a_putR dX9_init_19 (Or.inl ⟨fl_9_15, Or.inr ⟨rfl, rfl, rfl⟩⟩) rfl (cw_l h3 (by decide)) (cw_s h3 (by decide) rfl) ?_
  have h4 : Cw 57 Lj58 fs30 gs31 (wR M3 54 1 (some 56)) := cw_R h3 (by decide) (by decide +kernel)
  generalize (wR M3 54 1 (some 56)) = M4 at h4 ⊢
  exact a_vret dX9_init_22 rfl ⟨rfl, h4⟩
set_option maxHeartbeats 4000000 in
set_option maxRecDepth 100000 in
theorem b_X9_init_57_58 {X : Nat × (Nat → Int32)} {fr : Nat} {M : Mem} (h0 : Cw 58 Lj59 fs30 gs31 M) : AM yX9_init cX9_init 1 none true (fr + 4) 2 400 X [.ref 57] M (fun v M1 => v = none ∧ Cw 60 Lj61 fs30 gs31 M1) := by
  refine AM.of true (by decide +kernel) (by first | (intro _; rfl) | (intro h; cases h)) (Nat.le_of_ble_eq_true rfl) ?_
  show AW X (RX9, cX9_init, 1, none, true, true, fr + 4) 2 400 0 [(0, .ref 57)] [] M _
  refine a_aload_n dX9_init_0 rfl rfl ?_
  refine a_objInit dX9_init_1 oi_X9 oi_i oi_c (Nat.le_add_left 1 (fr + 3)) (Nat.le_of_ble_eq_true rfl) ?_
  refine a_aload_n dX9_init_4 rfl rfl ?_
  refine a_sipush (v := 200) dX9_init_5 (by decide) ?_
  refine a_newarray (t := 1) (n := 200) (at_ := .int) (ty := .int) (bc := 1) (bs := 200) (Or.inr (Or.inl ⟨rfl, rfl, rfl⟩)) dX9_init_8 rfl ay_int (by decide) (by decide) (by decide) (by rw [h0.1]; decide) (by rw [h0.1]; decide) ?_
  rw [h0.1]
  have h1 : Cw 59 Lj59 fs30 gs31 (nA M 1 200) := cw_nA h0 rfl
  generalize (nA M 1 200) = M1 at h1 ⊢
  refine a_putR dX9_init_10 (Or.inl ⟨fl_9_9, Or.inr ⟨rfl, rfl, rfl⟩⟩) rfl (cw_l h1 (by decide)) (cw_s h1 (by decide) rfl) ?_
  have h2 : Cw 59 Lj60 fs30 gs31 (wR M1 57 0 (some 58)) := cw_R h1 (by decide) (by decide +kernel)
  generalize (wR M1 57 0 (some 58)) = M2 at h2 ⊢
  refine a_aload_n dX9_init_13 rfl rfl ?_
  refine a_sipush (v := 200) dX9_init_14 (by decide) ?_
  refine a_newarray (t := 1) (n := 200) (at_ := .int) (ty := .int) (bc := 0) (bs := 0) (Or.inr (Or.inl ⟨rfl, rfl, rfl⟩)) dX9_init_17 rfl ay_int (by decide) (by decide) (by decide) (by rw [h2.1]; decide) (by rw [h2.1]; decide) ?_
  rw [h2.1]
  have h3 : Cw 60 Lj60 fs30 gs31 (nA M2 1 200) := cw_nA h2 rfl
  generalize (nA M2 1 200) = M3 at h3 ⊢
  refine a_putR dX9_init_19 (Or.inl ⟨fl_9_15, Or.inr ⟨rfl, rfl, rfl⟩⟩) rfl (cw_l h3 (by decide)) (cw_s h3 (by decide) rfl) ?_
  have h4 : Cw 60 Lj61 fs30 gs31 (wR M3 57 1 (some 59)) := cw_R h3 (by decide) (by decide +kernel)
  generalize (wR M3 57 1 (some 59)) = M4 at h4 ⊢
  exact a_vret dX9_init_22 rfl ⟨rfl, h4⟩
set_option maxHeartbeats 4000000 in
set_option maxRecDepth 100000 in
theorem b_X9_init_60_61 {X : Nat × (Nat → Int32)} {fr : Nat} {M : Mem} (h0 : Cw 61 Lj62 fs30 gs31 M) : AM yX9_init cX9_init 1 none true (fr + 4) 2 400 X [.ref 60] M (fun v M1 => v = none ∧ Cw 63 Lj64 fs30 gs31 M1) := by
  refine AM.of true (by decide +kernel) (by first | (intro _; rfl) | (intro h; cases h)) (Nat.le_of_ble_eq_true rfl) ?_
  show AW X (RX9, cX9_init, 1, none, true, true, fr + 4) 2 400 0 [(0, .ref 60)] [] M _
  refine a_aload_n dX9_init_0 rfl rfl ?_
  refine a_objInit dX9_init_1 oi_X9 oi_i oi_c (Nat.le_add_left 1 (fr + 3)) (Nat.le_of_ble_eq_true rfl) ?_
  refine a_aload_n dX9_init_4 rfl rfl ?_
  refine a_sipush (v := 200) dX9_init_5 (by decide) ?_
  refine a_newarray (t := 1) (n := 200) (at_ := .int) (ty := .int) (bc := 1) (bs := 200) (Or.inr (Or.inl ⟨rfl, rfl, rfl⟩)) dX9_init_8 rfl ay_int (by decide) (by decide) (by decide) (by rw [h0.1]; decide) (by rw [h0.1]; decide) ?_
  rw [h0.1]
  have h1 : Cw 62 Lj62 fs30 gs31 (nA M 1 200) := cw_nA h0 rfl
  generalize (nA M 1 200) = M1 at h1 ⊢
  refine a_putR dX9_init_10 (Or.inl ⟨fl_9_9, Or.inr ⟨rfl, rfl, rfl⟩⟩) rfl (cw_l h1 (by decide)) (cw_s h1 (by decide) rfl) ?_
  have h2 : Cw 62 Lj63 fs30 gs31 (wR M1 60 0 (some 61)) := cw_R h1 (by decide) (by decide +kernel)
  generalize (wR M1 60 0 (some 61)) = M2 at h2 ⊢
  refine a_aload_n dX9_init_13 rfl rfl ?_
  refine a_sipush (v := 200) dX9_init_14 (by decide) ?_
  refine a_newarray (t := 1) (n := 200) (at_ := .int) (ty := .int) (bc := 0) (bs := 0) (Or.inr (Or.inl ⟨rfl, rfl, rfl⟩)) dX9_init_17 rfl ay_int (by decide) (by decide) (by decide) (by rw [h2.1]; decide) (by rw [h2.1]; decide) ?_
  rw [h2.1]
  have h3 : Cw 63 Lj63 fs30 gs31 (nA M2 1 200) := cw_nA h2 rfl
  generalize (nA M2 1 200) = M3 at h3 ⊢
  refine a_putR dX9_init_19 (Or.inl ⟨fl_9_15, Or.inr ⟨rfl, rfl, rfl⟩⟩) rfl (cw_l h3 (by decide)) (cw_s h3 (by decide) rfl) ?_
  have h4 : Cw 63 Lj64 fs30 gs31 (wR M3 60 1 (some 62)) := cw_R h3 (by decide) (by decide +kernel)
  generalize (wR M3 60 1 (some 62)) = M4 at h4 ⊢
  exact a_vret dX9_init_22 rfl ⟨rfl, h4⟩
set_option maxHeartbeats 4000000 in
set_option maxRecDepth 100000 in
theorem b_X9_init_63_64 {X : Nat × (Nat → Int32)} {fr : Nat} {M : Mem} (h0 : Cw 64 Lj65 fs30 gs31 M) : AM yX9_init cX9_init 1 none true (fr + 4) 2 400 X [.ref 63] M (fun v M1 => v = none ∧ Cw 66 Lj67 fs30 gs31 M1) := by
  refine AM.of true (by decide +kernel) (by first | (intro _; rfl) | (intro h; cases h)) (Nat.le_of_ble_eq_true rfl) ?_
  show AW X (RX9, cX9_init, 1, none, true, true, fr + 4) 2 400 0 [(0, .ref 63)] [] M _
  refine a_aload_n dX9_init_0 rfl rfl ?_
  refine a_objInit dX9_init_1 oi_X9 oi_i oi_c (Nat.le_add_left 1 (fr + 3)) (Nat.le_of_ble_eq_true rfl) ?_
  refine a_aload_n dX9_init_4 rfl rfl ?_
  refine a_sipush (v := 200) dX9_init_5 (by decide) ?_
  refine a_newarray (t := 1) (n := 200) (at_ := .int) (ty := .int) (bc := 1) (bs := 200) (Or.inr (Or.inl ⟨rfl, rfl, rfl⟩)) dX9_init_8 rfl ay_int (by decide) (by decide) (by decide) (by rw [h0.1]; decide) (by rw [h0.1]; decide) ?_
  rw [h0.1]
  have h1 : Cw 65 Lj65 fs30 gs31 (nA M 1 200) := cw_nA h0 rfl
  generalize (nA M 1 200) = M1 at h1 ⊢
  refine a_putR dX9_init_10 (Or.inl ⟨fl_9_9, Or.inr ⟨rfl, rfl, rfl⟩⟩) rfl (cw_l h1 (by decide)) (cw_s h1 (by decide) rfl) ?_
  have h2 : Cw 65 Lj66 fs30 gs31 (wR M1 63 0 (some 64)) := cw_R h1 (by decide) (by decide +kernel)
  generalize (wR M1 63 0 (some 64)) = M2 at h2 ⊢
  refine a_aload_n dX9_init_13 rfl rfl ?_
  refine a_sipush (v := 200) dX9_init_14 (by decide) ?_
  refine a_newarray (t := 1) (n := 200) (at_ := .int) (ty := .int) (bc := 0) (bs := 0) (Or.inr (Or.inl ⟨rfl, rfl, rfl⟩)) dX9_init_17 rfl ay_int (by decide) (by decide) (by decide) (by rw [h2.1]; decide) (by rw [h2.1]; decide) ?_
  rw [h2.1]
  have h3 : Cw 66 Lj66 fs30 gs31 (nA M2 1 200) := cw_nA h2 rfl
  generalize (nA M2 1 200) = M3 at h3 ⊢
  refine a_putR dX9_init_19 (Or.inl ⟨fl_9_15, Or.inr ⟨rfl, rfl, rfl⟩⟩) rfl (cw_l h3 (by decide)) (cw_s h3 (by decide) rfl) ?_
  have h4 : Cw 66 Lj67 fs30 gs31 (wR M3 63 1 (some 65)) := cw_R h3 (by decide) (by decide +kernel)
  generalize (wR M3 63 1 (some 65)) = M4 at h4 ⊢
  exact a_vret dX9_init_22 rfl ⟨rfl, h4⟩
set_option maxHeartbeats 4000000 in
set_option maxRecDepth 100000 in
theorem b_X7_init_53_54 {X : Nat × (Nat → Int32)} {fr : Nat} {M : Mem} (h0 : Cw 54 Lj56 fs30 gs31 M) : AM yX7_init cX7_init 2 none true (fr + 5) 12 1616 X [.ref 53, .ref 40] M (fun v M1 => v = none ∧ Cw 66 Lj69 fs30 gs31 M1) := by
  refine AM.of true (by decide +kernel) (by first | (intro _; rfl) | (intro h; cases h)) (Nat.le_of_ble_eq_true rfl) ?_
  show AW X (RX7, cX7_init, 2, none, true, true, fr + 5) 12 1616 0 [(0, .ref 53), (1, .ref 40)] [] M _
  refine a_aload_n dX7_init_0 rfl rfl ?_
  refine a_objInit dX7_init_1 oi_X7 oi_i oi_c (Nat.le_add_left 1 (fr + 4)) (Nat.le_of_ble_eq_true rfl) ?_
  refine a_aload_n dX7_init_4 rfl rfl ?_
  refine a_new (ci := 9) (bc := 11) (bs := 1612) dX7_init_5 rfl (by decide) cl_X7_9 it_X9 ini_X9 (by rw [h0.1]; decide) (by rw [h0.1]; decide) ?_
  rw [h0.1]
  have h1 : Cw 55 Lj56 fs30 gs31 (nO M 9) := cw_nO h0 rfl
  generalize (nO M 9) = M1 at h1 ⊢
  refine a_dup dX7_init_8 rfl ?_
  refine a_callI (As := []) (st := [.ref 54, .ref 53]) (a := 54) (bc := 9) (bs := 1212) (mc := 2) (ms := 400) true dX7_init_9 mw_X9_init rfl (Or.inr ⟨rfl, mn_X7_11⟩) im_X9_init rfl (cw_l h1 (by decide)) rfl (by decide) (b_X9_init_54_55 (fr := fr) h1) (fun v M2 hq => ?_)
  obtain ⟨rfl, h2⟩ := hq
  refine a_putR dX7_init_12 (Or.inl ⟨fl_7_12, Or.inl rfl⟩) rfl (cw_l h2 (by decide)) (cw_s h2 (by decide) rfl) ?_
  have h3 : Cw 57 Lj59 fs30 gs31 (wR M2 53 1 (some 54)) := cw_R h2 (by decide) (by decide +kernel)
  generalize (wR M2 53 1 (some 54)) = M3 at h3 ⊢
  refine a_aload_n dX7_init_15 rfl rfl ?_
  refine a_new (ci := 9) (bc := 8) (bs := 1208) dX7_init_16 rfl (by decide) cl_X7_9 it_X9 ini_X9 (by rw [h3.1]; decide) (by rw [h3.1]; decide) ?_
  rw [h3.1]
  have h4 : Cw 58 Lj59 fs30 gs31 (nO M3 9) := cw_nO h3 rfl
  generalize (nO M3 9) = M4 at h4 ⊢
  refine a_dup dX7_init_19 rfl ?_
  refine a_callI (As := []) (st := [.ref 57, .ref 53]) (a := 57) (bc := 6) (bs := 808) (mc := 2) (ms := 400) true dX7_init_20 mw_X9_init rfl (Or.inr ⟨rfl, mn_X7_11⟩) im_X9_init rfl (cw_l h4 (by decide)) rfl (by decide) (b_X9_init_57_58 (fr := fr) h4) (fun v M5 hq => ?_)
  obtain ⟨rfl, h5⟩ := hq
  refine a_putR dX7_init_23 (Or.inl ⟨fl_7_18, Or.inl rfl⟩) rfl (cw_l h5 (by decide)) (cw_s h5 (by decide) rfl) ?_
  have h6 : Cw 60 Lj62 fs30 gs31 (wR M5 53 2 (some 57)) := cw_R h5 (by decide) (by decide +kernel)
  generalize (wR M5 53 2 (some 57)) = M6 at h6 ⊢
  refine a_aload_n dX7_init_26 rfl rfl ?_
  refine a_new (ci := 9) (bc := 5) (bs := 804) dX7_init_27 rfl (by decide) cl_X7_9 it_X9 ini_X9 (by rw [h6.1]; decide) (by rw [h6.1]; decide) ?_
  rw [h6.1]
  have h7 : Cw 61 Lj62 fs30 gs31 (nO M6 9) := cw_nO h6 rfl
  generalize (nO M6 9) = M7 at h7 ⊢
  refine a_dup dX7_init_30 rfl ?_
  refine a_callI (As := []) (st := [.ref 60, .ref 53]) (a := 60) (bc := 3) (bs := 404) (mc := 2) (ms := 400) true dX7_init_31 mw_X9_init rfl (Or.inr ⟨rfl, mn_X7_11⟩) im_X9_init rfl (cw_l h7 (by decide)) rfl (by decide) (b_X9_init_60_61 (fr := fr) h7) (fun v M8 hq => ?_)
  obtain ⟨rfl, h8⟩ := hq
  refine a_putR dX7_init_34 (Or.inl ⟨fl_7_21, Or.inl rfl⟩) rfl (cw_l h8 (by decide)) (cw_s h8 (by decide) rfl) ?_
  have h9 : Cw 63 Lj65 fs30 gs31 (wR M8 53 3 (some 60)) := cw_R h8 (by decide) (by decide +kernel)
  generalize (wR M8 53 3 (some 60)) = M9 at h9 ⊢
  refine a_aload_n dX7_init_37 rfl rfl ?_
  refine a_new (ci := 9) (bc := 2) (bs := 400) dX7_init_38 rfl (by decide) cl_X7_9 it_X9 ini_X9 (by rw [h9.1]; decide) (by rw [h9.1]; decide) ?_
  rw [h9.1]
  have h10 : Cw 64 Lj65 fs30 gs31 (nO M9 9) := cw_nO h9 rfl
  generalize (nO M9 9) = M10 at h10 ⊢
  refine a_dup dX7_init_41 rfl ?_
  refine a_callI (As := []) (st := [.ref 63, .ref 53]) (a := 63) (bc := 0) (bs := 0) (mc := 2) (ms := 400) true dX7_init_42 mw_X9_init rfl (Or.inr ⟨rfl, mn_X7_11⟩) im_X9_init rfl (cw_l h10 (by decide)) rfl (by decide) (b_X9_init_63_64 (fr := fr) h10) (fun v M11 hq => ?_)
  obtain ⟨rfl, h11⟩ := hq
  refine a_putR dX7_init_45 (Or.inl ⟨fl_7_24, Or.inl rfl⟩) rfl (cw_l h11 (by decide)) (cw_s h11 (by decide) rfl) ?_
  have h12 : Cw 66 Lj68 fs30 gs31 (wR M11 53 4 (some 63)) := cw_R h11 (by decide) (by decide +kernel)
  generalize (wR M11 53 4 (some 63)) = M12 at h12 ⊢
  refine a_aload_n dX7_init_48 rfl rfl ?_
  refine a_aload_n dX7_init_49 rfl rfl ?_
  refine a_putR dX7_init_50 (Or.inl ⟨fl_7_27, Or.inr ⟨rfl, rfl, rfl⟩⟩) rfl (cw_l h12 (by decide)) (cw_s h12 (by decide) rfl) ?_
  have h13 : Cw 66 Lj69 fs30 gs31 (wR M12 53 0 (some 40)) := cw_R h12 (by decide) (by decide +kernel)
  generalize (wR M12 53 0 (some 40)) = M13 at h13 ⊢
  exact a_vret dX7_init_53 rfl ⟨rfl, h13⟩
set_option maxHeartbeats 4000000 in
set_option maxRecDepth 100000 in
theorem b_X8_init_66_67 {X : Nat × (Nat → Int32)} {fr : Nat} {M : Mem} (h0 : Cw 67 Lj70 fs30 gs31 M) : AM yX8_init cX8_init 3 none true (fr + 5) 0 0 X [.ref 66, .ref 2, .ref 10] M (fun v M1 => v = none ∧ Cw 67 Lj72 fs30 gs31 M1) := by
  refine AM.of true (by decide +kernel) (by first | (intro _; rfl) | (intro h; cases h)) (Nat.le_of_ble_eq_true rfl) ?_
  show AW X (RX8, cX8_init, 3, none, true, true, fr + 5) 0 0 0 [(0, .ref 66), (1, .ref 2), (2, .ref 10)] [] M _
  refine a_aload_n dX8_init_0 rfl rfl ?_
  refine a_objInit dX8_init_1 oi_X8 oi_i oi_c (Nat.le_add_left 1 (fr + 4)) (Nat.le_of_ble_eq_true rfl) ?_
  refine a_aload_n dX8_init_4 rfl rfl ?_
  refine a_aload_n dX8_init_5 rfl rfl ?_
  refine a_putR dX8_init_6 (Or.inl ⟨fl_8_9, Or.inr ⟨rfl, rfl, rfl⟩⟩) rfl (cw_l h0 (by decide)) (cw_s h0 (by decide) rfl) ?_
  have h1 : Cw 67 Lj71 fs30 gs31 (wR M 66 0 (some 2)) := cw_R h0 (by decide) (by decide +kernel)
  generalize (wR M 66 0 (some 2)) = M1 at h1 ⊢
  refine a_aload_n dX8_init_9 rfl rfl ?_
  refine a_aload_n dX8_init_10 rfl rfl ?_
  refine a_putR dX8_init_11 (Or.inl ⟨fl_8_15, Or.inr ⟨rfl, rfl, rfl⟩⟩) rfl (cw_l h1 (by decide)) (cw_s h1 (by decide) rfl) ?_
  have h2 : Cw 67 Lj72 fs30 gs31 (wR M1 66 1 (some 10)) := cw_R h1 (by decide) (by decide +kernel)
  generalize (wR M1 66 1 (some 10)) = M2 at h2 ⊢
  exact a_vret dX8_init_14 rfl ⟨rfl, h2⟩
set_option maxHeartbeats 4000000 in
set_option maxRecDepth 100000 in
theorem b_X4_init_67_68 {X : Nat × (Nat → Int32)} {fr : Nat} {M : Mem} (h0 : Cw 68 Lj73 fs30 gs31 M) : AM yX4_init cX4_init 2 none true (fr + 5) 6 2836 X [.ref 67, .ref 10] M (fun v M1 => v = none ∧ Cw 74 Lj80 fs30 gs31 M1) := by
  refine AM.of true (by decide +kernel) (by first | (intro _; rfl) | (intro h; cases h)) (Nat.le_of_ble_eq_true rfl) ?_
  show AW X (RX4, cX4_init, 2, none, true, true, fr + 5) 6 2836 0 [(0, .ref 67), (1, .ref 10)] [] M _
  refine a_aload_n dX4_init_0 rfl rfl ?_
  refine a_objInit dX4_init_1 oi_X4 oi_i oi_c (Nat.le_add_left 1 (fr + 4)) (Nat.le_of_ble_eq_true rfl) ?_
  refine a_aload_n dX4_init_4 rfl rfl ?_
  refine a_sipush (v := 406) dX4_init_5 (by decide) ?_
  refine a_newarray (t := 1) (n := 406) (at_ := .int) (ty := .int) (bc := 5) (bs := 2430) (Or.inr (Or.inl ⟨rfl, rfl, rfl⟩)) dX4_init_8 rfl ay_int (by decide) (by decide) (by decide) (by rw [h0.1]; decide) (by rw [h0.1]; decide) ?_
  rw [h0.1]
  have h1 : Cw 69 Lj73 fs30 gs31 (nA M 1 406) := cw_nA h0 rfl
  generalize (nA M 1 406) = M1 at h1 ⊢
  refine a_putR dX4_init_10 (Or.inl ⟨fl_4_11, Or.inr ⟨rfl, rfl, rfl⟩⟩) rfl (cw_l h1 (by decide)) (cw_s h1 (by decide) rfl) ?_
  have h2 : Cw 69 Lj74 fs30 gs31 (wR M1 67 1 (some 68)) := cw_R h1 (by decide) (by decide +kernel)
  generalize (wR M1 67 1 (some 68)) = M2 at h2 ⊢
  refine a_aload_n dX4_init_13 rfl rfl ?_
  refine a_sipush (v := 406) dX4_init_14 (by decide) ?_
  refine a_newarray (t := 1) (n := 406) (at_ := .int) (ty := .int) (bc := 4) (bs := 2024) (Or.inr (Or.inl ⟨rfl, rfl, rfl⟩)) dX4_init_17 rfl ay_int (by decide) (by decide) (by decide) (by rw [h2.1]; decide) (by rw [h2.1]; decide) ?_
  rw [h2.1]
  have h3 : Cw 70 Lj74 fs30 gs31 (nA M2 1 406) := cw_nA h2 rfl
  generalize (nA M2 1 406) = M3 at h3 ⊢
  refine a_putR dX4_init_19 (Or.inl ⟨fl_4_15, Or.inr ⟨rfl, rfl, rfl⟩⟩) rfl (cw_l h3 (by decide)) (cw_s h3 (by decide) rfl) ?_
  have h4 : Cw 70 Lj75 fs30 gs31 (wR M3 67 2 (some 69)) := cw_R h3 (by decide) (by decide +kernel)
  generalize (wR M3 67 2 (some 69)) = M4 at h4 ⊢
  refine a_aload_n dX4_init_22 rfl rfl ?_
  refine a_sipush (v := 406) dX4_init_23 (by decide) ?_
  refine a_newarray (t := 1) (n := 406) (at_ := .int) (ty := .int) (bc := 3) (bs := 1618) (Or.inr (Or.inl ⟨rfl, rfl, rfl⟩)) dX4_init_26 rfl ay_int (by decide) (by decide) (by decide) (by rw [h4.1]; decide) (by rw [h4.1]; decide) ?_
  rw [h4.1]
  have h5 : Cw 71 Lj75 fs30 gs31 (nA M4 1 406) := cw_nA h4 rfl
  generalize (nA M4 1 406) = M5 at h5 ⊢
  refine a_putR dX4_init_28 (Or.inl ⟨fl_4_18, Or.inr ⟨rfl, rfl, rfl⟩⟩) rfl (cw_l h5 (by decide)) (cw_s h5 (by decide) rfl) ?_
  have h6 : Cw 71 Lj76 fs30 gs31 (wR M5 67 3 (some 70)) := cw_R h5 (by decide) (by decide +kernel)
  generalize (wR M5 67 3 (some 70)) = M6 at h6 ⊢
  refine a_aload_n dX4_init_31 rfl rfl ?_
  refine a_sipush (v := 1218) dX4_init_32 (by decide) ?_
  refine a_newarray (t := 1) (n := 1218) (at_ := .int) (ty := .int) (bc := 2) (bs := 400) (Or.inr (Or.inl ⟨rfl, rfl, rfl⟩)) dX4_init_35 rfl ay_int (by decide) (by decide) (by decide) (by rw [h6.1]; decide) (by rw [h6.1]; decide) ?_
  rw [h6.1]
  have h7 : Cw 72 Lj76 fs30 gs31 (nA M6 1 1218) := cw_nA h6 rfl
  generalize (nA M6 1 1218) = M7 at h7 ⊢
  refine a_putR dX4_init_37 (Or.inl ⟨fl_4_21, Or.inr ⟨rfl, rfl, rfl⟩⟩) rfl (cw_l h7 (by decide)) (cw_s h7 (by decide) rfl) ?_
  have h8 : Cw 72 Lj77 fs30 gs31 (wR M7 67 4 (some 71)) := cw_R h7 (by decide) (by decide +kernel)
  generalize (wR M7 67 4 (some 71)) = M8 at h8 ⊢
  refine a_aload_n dX4_init_40 rfl rfl ?_
  refine a_sipush (v := 200) dX4_init_41 (by decide) ?_
  refine a_newarray (t := 1) (n := 200) (at_ := .int) (ty := .int) (bc := 1) (bs := 200) (Or.inr (Or.inl ⟨rfl, rfl, rfl⟩)) dX4_init_44 rfl ay_int (by decide) (by decide) (by decide) (by rw [h8.1]; decide) (by rw [h8.1]; decide) ?_
  rw [h8.1]
  have h9 : Cw 73 Lj77 fs30 gs31 (nA M8 1 200) := cw_nA h8 rfl
  generalize (nA M8 1 200) = M9 at h9 ⊢
  refine a_putR dX4_init_46 (Or.inl ⟨fl_4_24, Or.inr ⟨rfl, rfl, rfl⟩⟩) rfl (cw_l h9 (by decide)) (cw_s h9 (by decide) rfl) ?_
  have h10 : Cw 73 Lj78 fs30 gs31 (wR M9 67 5 (some 72)) := cw_R h9 (by decide) (by decide +kernel)
  generalize (wR M9 67 5 (some 72)) = M10 at h10 ⊢
  refine a_aload_n dX4_init_49 rfl rfl ?_
  refine a_sipush (v := 200) dX4_init_50 (by decide) ?_
  refine a_newarray (t := 1) (n := 200) (at_ := .int) (ty := .int) (bc := 0) (bs := 0) (Or.inr (Or.inl ⟨rfl, rfl, rfl⟩)) dX4_init_53 rfl ay_int (by decide) (by decide) (by decide) (by rw [h10.1]; decide) (by rw [h10.1]; decide) ?_
  rw [h10.1]
  have h11 : Cw 74 Lj78 fs30 gs31 (nA M10 1 200) := cw_nA h10 rfl
  generalize (nA M10 1 200) = M11 at h11 ⊢
  refine a_putR dX4_init_55 (Or.inl ⟨fl_4_27, Or.inr ⟨rfl, rfl, rfl⟩⟩) rfl (cw_l h11 (by decide)) (cw_s h11 (by decide) rfl) ?_
  have h12 : Cw 74 Lj79 fs30 gs31 (wR M11 67 6 (some 73)) := cw_R h11 (by decide) (by decide +kernel)
  generalize (wR M11 67 6 (some 73)) = M12 at h12 ⊢
  refine a_aload_n dX4_init_58 rfl rfl ?_
  refine a_aload_n dX4_init_59 rfl rfl ?_
  refine a_putR dX4_init_60 (Or.inl ⟨fl_4_30, Or.inr ⟨rfl, rfl, rfl⟩⟩) rfl (cw_l h12 (by decide)) (cw_s h12 (by decide) rfl) ?_
  have h13 : Cw 74 Lj80 fs30 gs31 (wR M12 67 0 (some 10)) := cw_R h12 (by decide) (by decide +kernel)
  generalize (wR M12 67 0 (some 10)) = M13 at h13 ⊢
  exact a_vret dX4_init_63 rfl ⟨rfl, h13⟩
set_option maxHeartbeats 4000000 in
set_option maxRecDepth 100000 in
theorem b_X5_init_74_75 {X : Nat × (Nat → Int32)} {fr : Nat} {M : Mem} (h0 : Cw 75 Lj81 fs30 gs31 M) : AM yX5_init cX5_init 2 none true (fr + 5) 5 6880 X [.ref 74, .ref 2] M (fun v M1 => v = none ∧ Cw 80 Lj87 fs30 gs31 M1) := by
  refine AM.of true (by decide +kernel) (by first | (intro _; rfl) | (intro h; cases h)) (Nat.le_of_ble_eq_true rfl) ?_
  show AW X (RX5, cX5_init, 2, none, true, true, fr + 5) 5 6880 0 [(0, .ref 74), (1, .ref 2)] [] M _
  refine a_aload_n dX5_init_0 rfl rfl ?_
  refine a_objInit dX5_init_1 oi_X5 oi_i oi_c (Nat.le_add_left 1 (fr + 4)) (Nat.le_of_ble_eq_true rfl) ?_
  refine a_aload_n dX5_init_4 rfl rfl ?_
  refine a_sipush (v := 5200) dX5_init_5 (by decide) ?_
  refine a_newarray (t := 1) (n := 5200) (at_ := .int) (ty := .int) (bc := 4) (bs := 1680) (Or.inr (Or.inl ⟨rfl, rfl, rfl⟩)) dX5_init_8 rfl ay_int (by decide) (by decide) (by decide) (by rw [h0.1]; decide) (by rw [h0.1]; decide) ?_
  rw [h0.1]
  have h1 : Cw 76 Lj81 fs30 gs31 (nA M 1 5200) := cw_nA h0 rfl
  generalize (nA M 1 5200) = M1 at h1 ⊢
  refine a_putR dX5_init_10 (Or.inl ⟨fl_5_11, Or.inr ⟨rfl, rfl, rfl⟩⟩) rfl (cw_l h1 (by decide)) (cw_s h1 (by decide) rfl) ?_
  have h2 : Cw 76 Lj82 fs30 gs31 (wR M1 74 1 (some 75)) := cw_R h1 (by decide) (by decide +kernel)
  generalize (wR M1 74 1 (some 75)) = M2 at h2 ⊢
  refine a_aload_n dX5_init_13 rfl rfl ?_
  refine a_sipush (v := 420) dX5_init_14 (by decide) ?_
  refine a_newarray (t := 1) (n := 420) (at_ := .int) (ty := .int) (bc := 3) (bs := 1260) (Or.inr (Or.inl ⟨rfl, rfl, rfl⟩)) dX5_init_17 rfl ay_int (by decide) (by decide) (by decide) (by rw [h2.1]; decide) (by rw [h2.1]; decide) ?_
  rw [h2.1]
  have h3 : Cw 77 Lj82 fs30 gs31 (nA M2 1 420) := cw_nA h2 rfl
  generalize (nA M2 1 420) = M3 at h3 ⊢
  refine a_putR dX5_init_19 (Or.inl ⟨fl_5_17, Or.inr ⟨rfl, rfl, rfl⟩⟩) rfl (cw_l h3 (by decide)) (cw_s h3 (by decide) rfl) ?_
  have h4 : Cw 77 Lj83 fs30 gs31 (wR M3 74 2 (some 76)) := cw_R h3 (by decide) (by decide +kernel)
  generalize (wR M3 74 2 (some 76)) = M4 at h4 ⊢
  refine a_aload_n dX5_init_22 rfl rfl ?_
  refine a_sipush (v := 420) dX5_init_23 (by decide) ?_
  refine a_newarray (t := 1) (n := 420) (at_ := .int) (ty := .int) (bc := 2) (bs := 840) (Or.inr (Or.inl ⟨rfl, rfl, rfl⟩)) dX5_init_26 rfl ay_int (by decide) (by decide) (by decide) (by rw [h4.1]; decide) (by rw [h4.1]; decide) ?_
  rw [h4.1]
  have h5 : Cw 78 Lj83 fs30 gs31 (nA M4 1 420) := cw_nA h4 rfl
  generalize (nA M4 1 420) = M5 at h5 ⊢
  refine a_putR dX5_init_28 (Or.inl ⟨fl_5_20, Or.inr ⟨rfl, rfl, rfl⟩⟩) rfl (cw_l h5 (by decide)) (cw_s h5 (by decide) rfl) ?_
  have h6 : Cw 78 Lj84 fs30 gs31 (wR M5 74 3 (some 77)) := cw_R h5 (by decide) (by decide +kernel)
  generalize (wR M5 74 3 (some 77)) = M6 at h6 ⊢
  refine a_aload_n dX5_init_31 rfl rfl ?_
  refine a_sipush (v := 420) dX5_init_32 (by decide) ?_
  refine a_newarray (t := 1) (n := 420) (at_ := .int) (ty := .int) (bc := 1) (bs := 420) (Or.inr (Or.inl ⟨rfl, rfl, rfl⟩)) dX5_init_35 rfl ay_int (by decide) (by decide) (by decide) (by rw [h6.1]; decide) (by rw [h6.1]; decide) ?_
  rw [h6.1]
  have h7 : Cw 79 Lj84 fs30 gs31 (nA M6 1 420) := cw_nA h6 rfl
  generalize (nA M6 1 420) = M7 at h7 ⊢
  refine a_putR dX5_init_37 (Or.inl ⟨fl_5_23, Or.inr ⟨rfl, rfl, rfl⟩⟩) rfl (cw_l h7 (by decide)) (cw_s h7 (by decide) rfl) ?_
  have h8 : Cw 79 Lj85 fs30 gs31 (wR M7 74 4 (some 78)) := cw_R h7 (by decide) (by decide +kernel)
  generalize (wR M7 74 4 (some 78)) = M8 at h8 ⊢
  refine a_aload_n dX5_init_40 rfl rfl ?_
  refine a_sipush (v := 420) dX5_init_41 (by decide) ?_
  refine a_newarray (t := 2) (n := 420) (at_ := .long) (ty := .long) (bc := 0) (bs := 0) (Or.inr (Or.inr (Or.inl ⟨rfl, rfl, rfl⟩))) dX5_init_44 rfl ay_long (by decide) (by decide) (by decide) (by rw [h8.1]; decide) (by rw [h8.1]; decide) ?_
  rw [h8.1]
  have h9 : Cw 80 Lj85 fs30 gs31 (nA M8 2 420) := cw_nA h8 rfl
  generalize (nA M8 2 420) = M9 at h9 ⊢
  refine a_putR dX5_init_46 (Or.inl ⟨fl_5_26, Or.inr ⟨rfl, rfl, rfl⟩⟩) rfl (cw_l h9 (by decide)) (cw_s h9 (by decide) rfl) ?_
  have h10 : Cw 80 Lj86 fs30 gs31 (wR M9 74 5 (some 79)) := cw_R h9 (by decide) (by decide +kernel)
  generalize (wR M9 74 5 (some 79)) = M10 at h10 ⊢
  refine a_aload_n dX5_init_49 rfl rfl ?_
  refine a_aload_n dX5_init_50 rfl rfl ?_
  refine a_putR dX5_init_51 (Or.inl ⟨fl_5_30, Or.inr ⟨rfl, rfl, rfl⟩⟩) rfl (cw_l h10 (by decide)) (cw_s h10 (by decide) rfl) ?_
  have h11 : Cw 80 Lj87 fs30 gs31 (wR M10 74 0 (some 2)) := cw_R h10 (by decide) (by decide +kernel)
  generalize (wR M10 74 0 (some 2)) = M11 at h11 ⊢
  exact a_vret dX5_init_54 rfl ⟨rfl, h11⟩
set_option maxHeartbeats 4000000 in
set_option maxRecDepth 100000 in
theorem b_X0_init_80_81 {X : Nat × (Nat → Int32)} {fr : Nat} {M : Mem} (h0 : Cw 81 Lj88 fs30 gs31 M) : AM yX0_init cX0_init 2 none true (fr + 5) 5 16504 X [.ref 80, .ref 74] M (fun v M1 => v = none ∧ Cw 86 Lj94 fs30 gs31 M1) := by
  refine AM.of true (by decide +kernel) (by first | (intro _; rfl) | (intro h; cases h)) (Nat.le_of_ble_eq_true rfl) ?_
  show AW X (RX0, cX0_init, 2, none, true, true, fr + 5) 5 16504 0 [(0, .ref 80), (1, .ref 74)] [] M _
  refine a_aload_n dX0_init_0 rfl rfl ?_
  refine a_objInit dX0_init_1 oi_X0 oi_i oi_c (Nat.le_add_left 1 (fr + 4)) (Nat.le_of_ble_eq_true rfl) ?_
  refine a_aload_n dX0_init_4 rfl rfl ?_
  refine a_bipush (v := 40) dX0_init_5 (by decide) ?_
  refine a_newarray (t := 1) (n := 40) (at_ := .int) (ty := .int) (bc := 4) (bs := 16464) (Or.inr (Or.inl ⟨rfl, rfl, rfl⟩)) dX0_init_7 rfl ay_int (by decide) (by decide) (by decide) (by rw [h0.1]; decide) (by rw [h0.1]; decide) ?_
  rw [h0.1]
  have h1 : Cw 82 Lj88 fs30 gs31 (nA M 1 40) := cw_nA h0 rfl
  generalize (nA M 1 40) = M1 at h1 ⊢
  refine a_putR dX0_init_9 (Or.inl ⟨fl_0_9, Or.inr ⟨rfl, rfl, rfl⟩⟩) rfl (cw_l h1 (by decide)) (cw_s h1 (by decide) rfl) ?_
  have h2 : Cw 82 Lj89 fs30 gs31 (wR M1 80 1 (some 81)) := cw_R h1 (by decide) (by decide +kernel)
  generalize (wR M1 80 1 (some 81)) = M2 at h2 ⊢
  refine a_aload_n dX0_init_12 rfl rfl ?_
  refine a_bipush (v := 40) dX0_init_13 (by decide) ?_
  refine a_newarray (t := 2) (n := 40) (at_ := .long) (ty := .long) (bc := 3) (bs := 16424) (Or.inr (Or.inr (Or.inl ⟨rfl, rfl, rfl⟩))) dX0_init_15 rfl ay_long (by decide) (by decide) (by decide) (by rw [h2.1]; decide) (by rw [h2.1]; decide) ?_
  rw [h2.1]
  have h3 : Cw 83 Lj89 fs30 gs31 (nA M2 2 40) := cw_nA h2 rfl
  generalize (nA M2 2 40) = M3 at h3 ⊢
  refine a_putR dX0_init_17 (Or.inl ⟨fl_0_15, Or.inr ⟨rfl, rfl, rfl⟩⟩) rfl (cw_l h3 (by decide)) (cw_s h3 (by decide) rfl) ?_
  have h4 : Cw 83 Lj90 fs30 gs31 (wR M3 80 2 (some 82)) := cw_R h3 (by decide) (by decide +kernel)
  generalize (wR M3 80 2 (some 82)) = M4 at h4 ⊢
  refine a_aload_n dX0_init_20 rfl rfl ?_
  refine a_bipush (v := 40) dX0_init_21 (by decide) ?_
  refine a_newarray (t := 2) (n := 40) (at_ := .long) (ty := .long) (bc := 2) (bs := 16384) (Or.inr (Or.inr (Or.inl ⟨rfl, rfl, rfl⟩))) dX0_init_23 rfl ay_long (by decide) (by decide) (by decide) (by rw [h4.1]; decide) (by rw [h4.1]; decide) ?_
  rw [h4.1]
  have h5 : Cw 84 Lj90 fs30 gs31 (nA M4 2 40) := cw_nA h4 rfl
  generalize (nA M4 2 40) = M5 at h5 ⊢
  refine a_putR dX0_init_25 (Or.inl ⟨fl_0_19, Or.inr ⟨rfl, rfl, rfl⟩⟩) rfl (cw_l h5 (by decide)) (cw_s h5 (by decide) rfl) ?_
  have h6 : Cw 84 Lj91 fs30 gs31 (wR M5 80 3 (some 83)) := cw_R h5 (by decide) (by decide +kernel)
  generalize (wR M5 80 3 (some 83)) = M6 at h6 ⊢
  refine a_aload_n dX0_init_28 rfl rfl ?_
  refine a_sipush (v := 8192) dX0_init_29 (by decide) ?_
  refine a_newarray (t := 2) (n := 8192) (at_ := .long) (ty := .long) (bc := 1) (bs := 8192) (Or.inr (Or.inr (Or.inl ⟨rfl, rfl, rfl⟩))) dX0_init_32 rfl ay_long (by decide) (by decide) (by decide) (by rw [h6.1]; decide) (by rw [h6.1]; decide) ?_
  rw [h6.1]
  have h7 : Cw 85 Lj91 fs30 gs31 (nA M6 2 8192) := cw_nA h6 rfl
  generalize (nA M6 2 8192) = M7 at h7 ⊢
  refine a_putR dX0_init_34 (Or.inl ⟨fl_0_22, Or.inr ⟨rfl, rfl, rfl⟩⟩) rfl (cw_l h7 (by decide)) (cw_s h7 (by decide) rfl) ?_
  have h8 : Cw 85 Lj92 fs30 gs31 (wR M7 80 4 (some 84)) := cw_R h7 (by decide) (by decide +kernel)
  generalize (wR M7 80 4 (some 84)) = M8 at h8 ⊢
  refine a_aload_n dX0_init_37 rfl rfl ?_
  refine a_sipush (v := 8192) dX0_init_38 (by decide) ?_
  refine a_newarray (t := 2) (n := 8192) (at_ := .long) (ty := .long) (bc := 0) (bs := 0) (Or.inr (Or.inr (Or.inl ⟨rfl, rfl, rfl⟩))) dX0_init_41 rfl ay_long (by decide) (by decide) (by decide) (by rw [h8.1]; decide) (by rw [h8.1]; decide) ?_
  rw [h8.1]
  have h9 : Cw 86 Lj92 fs30 gs31 (nA M8 2 8192) := cw_nA h8 rfl
  generalize (nA M8 2 8192) = M9 at h9 ⊢
  refine a_putR dX0_init_43 (Or.inl ⟨fl_0_25, Or.inr ⟨rfl, rfl, rfl⟩⟩) rfl (cw_l h9 (by decide)) (cw_s h9 (by decide) rfl) ?_
  have h10 : Cw 86 Lj93 fs30 gs31 (wR M9 80 5 (some 85)) := cw_R h9 (by decide) (by decide +kernel)
  generalize (wR M9 80 5 (some 85)) = M10 at h10 ⊢
  refine a_aload_n dX0_init_46 rfl rfl ?_
  refine a_aload_n dX0_init_47 rfl rfl ?_
  refine a_putR dX0_init_48 (Or.inl ⟨fl_0_28, Or.inr ⟨rfl, rfl, rfl⟩⟩) rfl (cw_l h10 (by decide)) (cw_s h10 (by decide) rfl) ?_
  have h11 : Cw 86 Lj94 fs30 gs31 (wR M10 80 0 (some 74)) := cw_R h10 (by decide) (by decide +kernel)
  generalize (wR M10 80 0 (some 74)) = M11 at h11 ⊢
  exact a_vret dX0_init_51 rfl ⟨rfl, h11⟩
set_option maxHeartbeats 4000000 in
set_option maxRecDepth 100000 in
theorem b_X10_init_0_1 {X : Nat × (Nat → Int32)} {fr : Nat} {M : Mem} (h0 : Cw 1 Lj0 fs0 gs0 M) : AM yX10_init cX10_init 2 none true (fr + 6) 88 66379 X [.ref 0] M (fun v M1 => v = none ∧ Cw 89 Lj97 fs32 gs31 M1) := by
  refine AM.of true (by decide +kernel) (by first | (intro _; rfl) | (intro h; cases h)) (Nat.le_of_ble_eq_true rfl) ?_
  show AW X (RX10, cX10_init, 2, none, true, true, fr + 6) 88 66379 0 [(0, .ref 0)] [] M _
  refine a_aload_n dX10_init_0 rfl rfl ?_
  refine a_objInit dX10_init_1 oi_X10 oi_i oi_c (Nat.le_add_left 1 (fr + 5)) (Nat.le_of_ble_eq_true rfl) ?_
  refine a_aload_n dX10_init_4 rfl rfl ?_
  refine a_sipush (v := 600) dX10_init_5 (by decide) ?_
  refine a_newarray (t := 1) (n := 600) (at_ := .int) (ty := .int) (bc := 87) (bs := 65779) (Or.inr (Or.inl ⟨rfl, rfl, rfl⟩)) dX10_init_8 rfl ay_int (by decide) (by decide) (by decide) (by rw [h0.1]; decide) (by rw [h0.1]; decide) ?_
  rw [h0.1]
  have h1 : Cw 2 Lj0 fs0 gs0 (nA M 1 600) := cw_nA h0 rfl
  generalize (nA M 1 600) = M1 at h1 ⊢
  refine a_putR dX10_init_10 (Or.inl ⟨fl_10_9, Or.inr ⟨rfl, rfl, rfl⟩⟩) rfl (cw_l h1 (by decide)) (cw_s h1 (by decide) rfl) ?_
  have h2 : Cw 2 Lj1 fs0 gs0 (wR M1 0 0 (some 1)) := cw_R h1 (by decide) (by decide +kernel)
  generalize (wR M1 0 0 (some 1)) = M2 at h2 ⊢
  refine a_aload_n dX10_init_13 rfl rfl ?_
  refine a_new (ci := 1) (bc := 86) (bs := 65770) dX10_init_14 rfl (by decide) cl_X10_13 it_X1 ini_X1 (by rw [h2.1]; decide) (by rw [h2.1]; decide) ?_
  rw [h2.1]
  have h3 : Cw 3 Lj1 fs0 gs0 (nO M2 1) := cw_nO h2 rfl
  generalize (nO M2 1) = M3 at h3 ⊢
  refine a_dup dX10_init_17 rfl ?_
  refine a_callI (As := []) (st := [.ref 2, .ref 0]) (a := 2) (bc := 79) (bs := 33546) (mc := 7) (ms := 32224) false dX10_init_18 mw_X1_init rfl (Or.inl ⟨rfl, ml_X10_15⟩) im_X1_init rfl (cw_l h3 (by decide)) rfl (by decide) (b_X1_init_2_3 (fr := fr) h3) (fun v M4 hq => ?_)
  obtain ⟨rfl, h4⟩ := hq
  refine a_putR dX10_init_21 (Or.inl ⟨fl_10_16, Or.inr ⟨rfl, rfl, rfl⟩⟩) rfl (cw_l h4 (by decide)) (cw_s h4 (by decide) rfl) ?_
  have h5 : Cw 10 Lj9 fs29 gs9 (wR M4 0 2 (some 2)) := cw_R h4 (by decide) (by decide +kernel)
  generalize (wR M4 0 2 (some 2)) = M5 at h5 ⊢
  refine a_aload_n dX10_init_24 rfl rfl ?_
  refine a_new (ci := 2) (bc := 78) (bs := 33542) dX10_init_25 rfl (by decide) cl_X10_20 it_X2 ini_X2 (by rw [h5.1]; decide) (by rw [h5.1]; decide) ?_
  rw [h5.1]
  have h6 : Cw 11 Lj9 fs29 gs9 (nO M5 2) := cw_nO h5 rfl
  generalize (nO M5 2) = M6 at h6 ⊢
  refine a_dup dX10_init_28 rfl ?_
  refine a_callI (As := []) (st := [.ref 10, .ref 0]) (a := 10) (bc := 75) (bs := 33524) (mc := 3) (ms := 18) true dX10_init_29 mw_X2_init rfl (Or.inr ⟨rfl, mn_X10_22⟩) im_X2_init rfl (cw_l h6 (by decide)) rfl (by decide) (b_X2_init_10_11 (fr := fr) h6) (fun v M7 hq => ?_)
  obtain ⟨rfl, h7⟩ := hq
  refine a_putR dX10_init_32 (Or.inl ⟨fl_10_23, Or.inr ⟨rfl, rfl, rfl⟩⟩) rfl (cw_l h7 (by decide)) (cw_s h7 (by decide) rfl) ?_
  have h8 : Cw 14 Lj13 fs29 gs9 (wR M7 0 3 (some 10)) := cw_R h7 (by decide) (by decide +kernel)
  generalize (wR M7 0 3 (some 10)) = M8 at h8 ⊢
  refine a_aload_n dX10_init_35 rfl rfl ?_
  refine a_new (ci := 6) (bc := 74) (bs := 33505) dX10_init_36 rfl (by decide) cl_X10_27 it_X6 ini_X6 (by rw [h8.1]; decide) (by rw [h8.1]; decide) ?_
  rw [h8.1]
  have h9 : Cw 15 Lj13 fs29 gs9 (nO M8 6) := cw_nO h8 rfl
  generalize (nO M8 6) = M9 at h9 ⊢
  refine a_dup dX10_init_39 rfl ?_
  refine a_aload_n dX10_init_40 rfl rfl ?_
  refine a_get (v := .ref 2) dX10_init_41 fl_10_16 (cw_l h9 (by decide)) (cw_s h9 (by decide) rfl) (cw_g h9 rfl (by decide +kernel)) ?_
  refine a_aload_n dX10_init_44 rfl rfl ?_
  refine a_get (v := .ref 1) dX10_init_45 fl_10_9 (cw_l h9 (by decide)) (cw_s h9 (by decide) rfl) (cw_g h9 rfl (by decide +kernel)) ?_
  refine a_callI (As := [.ref 2, .ref 1]) (st := [.ref 14, .ref 0]) (a := 14) (bc := 65) (bs := 32433) (mc := 9) (ms := 1072) false dX10_init_48 mw_X6_init rfl (Or.inl ⟨rfl, ml_X10_29⟩) im_X6_init rfl (cw_l h9 (by decide)) rfl (by decide) (b_X6_init_14_15 (fr := fr) h9) (fun v M10 hq => ?_)
  obtain ⟨rfl, h10⟩ := hq
  refine a_putR dX10_init_51 (Or.inl ⟨fl_10_32, Or.inr ⟨rfl, rfl, rfl⟩⟩) rfl (cw_l h10 (by decide)) (cw_s h10 (by decide) rfl) ?_
  have h11 : Cw 24 Lj25 fs30 gs31 (wR M10 0 4 (some 14)) := cw_R h10 (by decide) (by decide +kernel)
  generalize (wR M10 0 4 (some 14)) = M11 at h11 ⊢
  refine a_aload_n dX10_init_54 rfl rfl ?_
  refine a_iconst (v := 4) dX10_init_55 (by decide) ?_
  refine a_anew (n := 4) (bc := 64) (bs := 32429) dX10_init_56 rfl cl_X10_36 (by decide) (by decide) (by decide) (by rw [h11.1]; decide) (by rw [h11.1]; decide) ?_
  rw [h11.1]
  have h12 : Cw 25 Lj25 fs30 gs31 (nA M11 4 4) := cw_nA h11 rfl
  generalize (nA M11 4 4) = M12 at h12 ⊢
  refine a_putR dX10_init_59 (Or.inl ⟨fl_10_38, Or.inr ⟨rfl, rfl, rfl⟩⟩) rfl (cw_l h12 (by decide)) (cw_s h12 (by decide) rfl) ?_
  have h13 : Cw 25 Lj26 fs30 gs31 (wR M12 0 5 (some 24)) := cw_R h12 (by decide) (by decide +kernel)
  generalize (wR M12 0 5 (some 24)) = M13 at h13 ⊢
  refine a_iconst (v := 0) dX10_init_62 (by decide) ?_
  refine a_istore_n dX10_init_63 rfl (Nat.le_of_ble_eq_true rfl) (lv2 := [(1, .int 0), (0, .ref 0)]) rfl ?_
  refine a_iload_n dX10_init_64 rfl rfl ?_
  refine a_iconst (v := 4) dX10_init_65 (by decide) ?_
  refine a_icmp_ge 88 dX10_init_66 (by decide) (fun c => absurd c (by decide)) (fun _ => ?_)
  refine a_aload_n dX10_init_69 rfl rfl ?_
  refine a_get (v := .ref 24) dX10_init_70 fl_10_38 (cw_l h13 (by decide)) (cw_s h13 (by decide) rfl) (cw_g h13 rfl (by decide +kernel)) ?_
  refine a_iload_n dX10_init_73 rfl rfl ?_
  refine a_new (ci := 9) (bc := 63) (bs := 32425) dX10_init_74 rfl (by decide) cl_X10_36 it_X9 ini_X9 (by rw [h13.1]; decide) (by rw [h13.1]; decide) ?_
  rw [h13.1]
  have h14 : Cw 26 Lj26 fs30 gs31 (nO M13 9) := cw_nO h13 rfl
  generalize (nO M13 9) = M14 at h14 ⊢
  refine a_dup dX10_init_77 rfl ?_
  refine a_callI (As := []) (st := [.ref 25, .int 0, .ref 24]) (a := 25) (bc := 61) (bs := 32025) (mc := 2) (ms := 400) true dX10_init_78 mw_X9_init rfl (Or.inr ⟨rfl, mn_X10_42⟩) im_X9_init rfl (cw_l h14 (by decide)) rfl (by decide) (b_X9_init_25_26 (fr := fr) h14) (fun v M15 hq => ?_)
  obtain ⟨rfl, h15⟩ := hq
  refine a_aastore dX10_init_81 (cw_l h15 (by decide)) (cw_s h15 (by decide) rfl) (by unfold vp_in; decide +kernel) (cw_l h15 (by decide)) (cw_s h15 (by decide) rfl) ?_
  rw [show Int32.toNatClampNeg 0 = 0 from by decide +kernel]
  have h16 : Cw 28 Lj29 fs30 gs31 (wR M15 24 0 (some 25)) := cw_R h15 (by decide) (by decide +kernel)
  generalize (wR M15 24 0 (some 25)) = M16 at h16 ⊢
  refine a_iinc (v := 1) dX10_init_82 rfl (by decide) (Nat.le_of_ble_eq_true rfl) (lv2 := [(1, .int 1), (0, .ref 0)]) rfl ?_
  refine a_goto 64 dX10_init_85 (by decide) ?_
  refine a_iload_n dX10_init_64 rfl rfl ?_
  refine a_iconst (v := 4) dX10_init_65 (by decide) ?_
  refine a_icmp_ge 88 dX10_init_66 (by decide) (fun c => absurd c (by decide)) (fun _ => ?_)
  refine a_aload_n dX10_init_69 rfl rfl ?_
  refine a_get (v := .ref 24) dX10_init_70 fl_10_38 (cw_l h16 (by decide)) (cw_s h16 (by decide) rfl) (cw_g h16 rfl (by decide +kernel)) ?_
  refine a_iload_n dX10_init_73 rfl rfl ?_
  refine a_new (ci := 9) (bc := 60) (bs := 32021) dX10_init_74 rfl (by decide) cl_X10_36 it_X9 ini_X9 (by rw [h16.1]; decide) (by rw [h16.1]; decide) ?_
  rw [h16.1]
  have h17 : Cw 29 Lj29 fs30 gs31 (nO M16 9) := cw_nO h16 rfl
  generalize (nO M16 9) = M17 at h17 ⊢
  refine a_dup dX10_init_77 rfl ?_
  refine a_callI (As := []) (st := [.ref 28, .int 1, .ref 24]) (a := 28) (bc := 58) (bs := 31621) (mc := 2) (ms := 400) true dX10_init_78 mw_X9_init rfl (Or.inr ⟨rfl, mn_X10_42⟩) im_X9_init rfl (cw_l h17 (by decide)) rfl (by decide) (b_X9_init_28_29 (fr := fr) h17) (fun v M18 hq => ?_)
  obtain ⟨rfl, h18⟩ := hq
  refine a_aastore dX10_init_81 (cw_l h18 (by decide)) (cw_s h18 (by decide) rfl) (by unfold vp_in; decide +kernel) (cw_l h18 (by decide)) (cw_s h18 (by decide) rfl) ?_
  rw [show Int32.toNatClampNeg 1 = 1 from by decide +kernel]
  have h19 : Cw 31 Lj32 fs30 gs31 (wR M18 24 1 (some 28)) := cw_R h18 (by decide) (by decide +kernel)
  generalize (wR M18 24 1 (some 28)) = M19 at h19 ⊢
  refine a_iinc (v := 2) dX10_init_82 rfl (by decide) (Nat.le_of_ble_eq_true rfl) (lv2 := [(1, .int 2), (0, .ref 0)]) rfl ?_
  refine a_goto 64 dX10_init_85 (by decide) ?_
  refine a_iload_n dX10_init_64 rfl rfl ?_
  refine a_iconst (v := 4) dX10_init_65 (by decide) ?_
  refine a_icmp_ge 88 dX10_init_66 (by decide) (fun c => absurd c (by decide)) (fun _ => ?_)
  refine a_aload_n dX10_init_69 rfl rfl ?_
  refine a_get (v := .ref 24) dX10_init_70 fl_10_38 (cw_l h19 (by decide)) (cw_s h19 (by decide) rfl) (cw_g h19 rfl (by decide +kernel)) ?_
  refine a_iload_n dX10_init_73 rfl rfl ?_
  refine a_new (ci := 9) (bc := 57) (bs := 31617) dX10_init_74 rfl (by decide) cl_X10_36 it_X9 ini_X9 (by rw [h19.1]; decide) (by rw [h19.1]; decide) ?_
  rw [h19.1]
  have h20 : Cw 32 Lj32 fs30 gs31 (nO M19 9) := cw_nO h19 rfl
  generalize (nO M19 9) = M20 at h20 ⊢
  refine a_dup dX10_init_77 rfl ?_
  refine a_callI (As := []) (st := [.ref 31, .int 2, .ref 24]) (a := 31) (bc := 55) (bs := 31217) (mc := 2) (ms := 400) true dX10_init_78 mw_X9_init rfl (Or.inr ⟨rfl, mn_X10_42⟩) im_X9_init rfl (cw_l h20 (by decide)) rfl (by decide) (b_X9_init_31_32 (fr := fr) h20) (fun v M21 hq => ?_)
  obtain ⟨rfl, h21⟩ := hq
  refine a_aastore dX10_init_81 (cw_l h21 (by decide)) (cw_s h21 (by decide) rfl) (by unfold vp_in; decide +kernel) (cw_l h21 (by decide)) (cw_s h21 (by decide) rfl) ?_
  rw [show Int32.toNatClampNeg 2 = 2 from by decide +kernel]
  have h22 : Cw 34 Lj35 fs30 gs31 (wR M21 24 2 (some 31)) := cw_R h21 (by decide) (by decide +kernel)
  generalize (wR M21 24 2 (some 31)) = M22 at h22 ⊢
  refine a_iinc (v := 3) dX10_init_82 rfl (by decide) (Nat.le_of_ble_eq_true rfl) (lv2 := [(1, .int 3), (0, .ref 0)]) rfl ?_
  refine a_goto 64 dX10_init_85 (by decide) ?_
  refine a_iload_n dX10_init_64 rfl rfl ?_
  refine a_iconst (v := 4) dX10_init_65 (by decide) ?_
  refine a_icmp_ge 88 dX10_init_66 (by decide) (fun c => absurd c (by decide)) (fun _ => ?_)
  refine a_aload_n dX10_init_69 rfl rfl ?_
  refine a_get (v := .ref 24) dX10_init_70 fl_10_38 (cw_l h22 (by decide)) (cw_s h22 (by decide) rfl) (cw_g h22 rfl (by decide +kernel)) ?_
  refine a_iload_n dX10_init_73 rfl rfl ?_
  refine a_new (ci := 9) (bc := 54) (bs := 31213) dX10_init_74 rfl (by decide) cl_X10_36 it_X9 ini_X9 (by rw [h22.1]; decide) (by rw [h22.1]; decide) ?_
  rw [h22.1]
  have h23 : Cw 35 Lj35 fs30 gs31 (nO M22 9) := cw_nO h22 rfl
  generalize (nO M22 9) = M23 at h23 ⊢
  refine a_dup dX10_init_77 rfl ?_
  refine a_callI (As := []) (st := [.ref 34, .int 3, .ref 24]) (a := 34) (bc := 52) (bs := 30813) (mc := 2) (ms := 400) true dX10_init_78 mw_X9_init rfl (Or.inr ⟨rfl, mn_X10_42⟩) im_X9_init rfl (cw_l h23 (by decide)) rfl (by decide) (b_X9_init_34_35 (fr := fr) h23) (fun v M24 hq => ?_)
  obtain ⟨rfl, h24⟩ := hq
  refine a_aastore dX10_init_81 (cw_l h24 (by decide)) (cw_s h24 (by decide) rfl) (by unfold vp_in; decide +kernel) (cw_l h24 (by decide)) (cw_s h24 (by decide) rfl) ?_
  rw [show Int32.toNatClampNeg 3 = 3 from by decide +kernel]
  have h25 : Cw 37 Lj38 fs30 gs31 (wR M24 24 3 (some 34)) := cw_R h24 (by decide) (by decide +kernel)
  generalize (wR M24 24 3 (some 34)) = M25 at h25 ⊢
  refine a_iinc (v := 4) dX10_init_82 rfl (by decide) (Nat.le_of_ble_eq_true rfl) (lv2 := [(1, .int 4), (0, .ref 0)]) rfl ?_
  refine a_goto 64 dX10_init_85 (by decide) ?_
  refine a_iload_n dX10_init_64 rfl rfl ?_
  refine a_iconst (v := 4) dX10_init_65 (by decide) ?_
  refine a_icmp_ge 88 dX10_init_66 (by decide) (fun _ => ?_) (fun c => absurd c (by decide))
  refine a_aload_n dX10_init_88 rfl rfl ?_
  refine a_new (ci := 9) (bc := 51) (bs := 30809) dX10_init_89 rfl (by decide) cl_X10_36 it_X9 ini_X9 (by rw [h25.1]; decide) (by rw [h25.1]; decide) ?_
  rw [h25.1]
  have h26 : Cw 38 Lj38 fs30 gs31 (nO M25 9) := cw_nO h25 rfl
  generalize (nO M25 9) = M26 at h26 ⊢
  refine a_dup dX10_init_92 rfl ?_
  refine a_callI (As := []) (st := [.ref 37, .ref 0]) (a := 37) (bc := 49) (bs := 30409) (mc := 2) (ms := 400) true dX10_init_93 mw_X9_init rfl (Or.inr ⟨rfl, mn_X10_42⟩) im_X9_init rfl (cw_l h26 (by decide)) rfl (by decide) (b_X9_init_37_38 (fr := fr) h26) (fun v M27 hq => ?_)
  obtain ⟨rfl, h27⟩ := hq
  refine a_putR dX10_init_96 (Or.inl ⟨fl_10_43, Or.inr ⟨rfl, rfl, rfl⟩⟩) rfl (cw_l h27 (by decide)) (cw_s h27 (by decide) rfl) ?_
  have h28 : Cw 40 Lj41 fs30 gs31 (wR M27 0 6 (some 37)) := cw_R h27 (by decide) (by decide +kernel)
  generalize (wR M27 0 6 (some 37)) = M28 at h28 ⊢
  refine a_aload_n dX10_init_99 rfl rfl ?_
  refine a_new (ci := 3) (bc := 48) (bs := 30396) dX10_init_100 rfl (by decide) cl_X10_47 it_X3 ini_X3 (by rw [h28.1]; decide) (by rw [h28.1]; decide) ?_
  rw [h28.1]
  have h29 : Cw 41 Lj41 fs30 gs31 (nO M28 3) := cw_nO h28 rfl
  generalize (nO M28 3) = M29 at h29 ⊢
  refine a_dup dX10_init_103 rfl ?_
  refine a_aload_n dX10_init_104 rfl rfl ?_
  refine a_get (v := .ref 2) dX10_init_105 fl_10_16 (cw_l h29 (by decide)) (cw_s h29 (by decide) rfl) (cw_g h29 rfl (by decide +kernel)) ?_
  refine a_aload_n dX10_init_108 rfl rfl ?_
  refine a_get (v := .ref 10) dX10_init_109 fl_10_23 (cw_l h29 (by decide)) (cw_s h29 (by decide) rfl) (cw_g h29 rfl (by decide +kernel)) ?_
  refine a_callI (As := [.ref 2, .ref 10]) (st := [.ref 40, .ref 0]) (a := 40) (bc := 36) (bs := 27992) (mc := 12) (ms := 2404) false dX10_init_112 mw_X3_init rfl (Or.inl ⟨rfl, ml_X10_49⟩) im_X3_init rfl (cw_l h29 (by decide)) rfl (by decide) (b_X3_init_40_41 (fr := fr) h29) (fun v M30 hq => ?_)
  obtain ⟨rfl, h30⟩ := hq
  refine a_putR dX10_init_115 (Or.inl ⟨fl_10_52, Or.inr ⟨rfl, rfl, rfl⟩⟩) rfl (cw_l h30 (by decide)) (cw_s h30 (by decide) rfl) ?_
  have h31 : Cw 53 Lj56 fs30 gs31 (wR M30 0 7 (some 40)) := cw_R h30 (by decide) (by decide +kernel)
  generalize (wR M30 0 7 (some 40)) = M31 at h31 ⊢
  refine a_aload_n dX10_init_118 rfl rfl ?_
  refine a_new (ci := 7) (bc := 35) (bs := 27987) dX10_init_119 rfl (by decide) cl_X10_56 it_X7 ini_X7 (by rw [h31.1]; decide) (by rw [h31.1]; decide) ?_
  rw [h31.1]
  have h32 : Cw 54 Lj56 fs30 gs31 (nO M31 7) := cw_nO h31 rfl
  generalize (nO M31 7) = M32 at h32 ⊢
  refine a_dup dX10_init_122 rfl ?_
  refine a_aload_n dX10_init_123 rfl rfl ?_
  refine a_get (v := .ref 40) dX10_init_124 fl_10_52 (cw_l h32 (by decide)) (cw_s h32 (by decide) rfl) (cw_g h32 rfl (by decide +kernel)) ?_
  refine a_callI (As := [.ref 40]) (st := [.ref 53, .ref 0]) (a := 53) (bc := 23) (bs := 26371) (mc := 12) (ms := 1616) false dX10_init_127 mw_X7_init rfl (Or.inl ⟨rfl, ml_X10_58⟩) im_X7_init rfl (cw_l h32 (by decide)) rfl (by decide) (b_X7_init_53_54 (fr := fr) h32) (fun v M33 hq => ?_)
  obtain ⟨rfl, h33⟩ := hq
  refine a_putR dX10_init_130 (Or.inl ⟨fl_10_61, Or.inr ⟨rfl, rfl, rfl⟩⟩) rfl (cw_l h33 (by decide)) (cw_s h33 (by decide) rfl) ?_
  have h34 : Cw 66 Lj70 fs30 gs31 (wR M33 0 8 (some 53)) := cw_R h33 (by decide) (by decide +kernel)
  generalize (wR M33 0 8 (some 53)) = M34 at h34 ⊢
  refine a_aload_n dX10_init_133 rfl rfl ?_
  refine a_new (ci := 8) (bc := 22) (bs := 26366) dX10_init_134 rfl (by decide) cl_X10_65 it_X8 ini_X8 (by rw [h34.1]; decide) (by rw [h34.1]; decide) ?_
  rw [h34.1]
  have h35 : Cw 67 Lj70 fs30 gs31 (nO M34 8) := cw_nO h34 rfl
  generalize (nO M34 8) = M35 at h35 ⊢
  refine a_dup dX10_init_137 rfl ?_
  refine a_aload_n dX10_init_138 rfl rfl ?_
  refine a_get (v := .ref 2) dX10_init_139 fl_10_16 (cw_l h35 (by decide)) (cw_s h35 (by decide) rfl) (cw_g h35 rfl (by decide +kernel)) ?_
  refine a_aload_n dX10_init_142 rfl rfl ?_
  refine a_get (v := .ref 10) dX10_init_143 fl_10_23 (cw_l h35 (by decide)) (cw_s h35 (by decide) rfl) (cw_g h35 rfl (by decide +kernel)) ?_
  refine a_callI (As := [.ref 2, .ref 10]) (st := [.ref 66, .ref 0]) (a := 66) (bc := 22) (bs := 26366) (mc := 0) (ms := 0) false dX10_init_146 mw_X8_init rfl (Or.inl ⟨rfl, ml_X10_67⟩) im_X8_init rfl (cw_l h35 (by decide)) rfl (by decide) (b_X8_init_66_67 (fr := fr) h35) (fun v M36 hq => ?_)
  obtain ⟨rfl, h36⟩ := hq
  refine a_putR dX10_init_149 (Or.inl ⟨fl_10_68, Or.inr ⟨rfl, rfl, rfl⟩⟩) rfl (cw_l h36 (by decide)) (cw_s h36 (by decide) rfl) ?_
  have h37 : Cw 67 Lj73 fs30 gs31 (wR M36 0 9 (some 66)) := cw_R h36 (by decide) (by decide +kernel)
  generalize (wR M36 0 9 (some 66)) = M37 at h37 ⊢
  refine a_aload_n dX10_init_152 rfl rfl ?_
  refine a_new (ci := 4) (bc := 21) (bs := 26358) dX10_init_153 rfl (by decide) cl_X10_72 it_X4 ini_X4 (by rw [h37.1]; decide) (by rw [h37.1]; decide) ?_
  rw [h37.1]
  have h38 : Cw 68 Lj73 fs30 gs31 (nO M37 4) := cw_nO h37 rfl
  generalize (nO M37 4) = M38 at h38 ⊢
  refine a_dup dX10_init_156 rfl ?_
  refine a_aload_n dX10_init_157 rfl rfl ?_
  refine a_get (v := .ref 10) dX10_init_158 fl_10_23 (cw_l h38 (by decide)) (cw_s h38 (by decide) rfl) (cw_g h38 rfl (by decide +kernel)) ?_
  refine a_callI (As := [.ref 10]) (st := [.ref 67, .ref 0]) (a := 67) (bc := 15) (bs := 23522) (mc := 6) (ms := 2836) false dX10_init_161 mw_X4_init rfl (Or.inl ⟨rfl, ml_X10_74⟩) im_X4_init rfl (cw_l h38 (by decide)) rfl (by decide) (b_X4_init_67_68 (fr := fr) h38) (fun v M39 hq => ?_)
  obtain ⟨rfl, h39⟩ := hq
  refine a_putR dX10_init_164 (Or.inl ⟨fl_10_77, Or.inr ⟨rfl, rfl, rfl⟩⟩) rfl (cw_l h39 (by decide)) (cw_s h39 (by decide) rfl) ?_
  have h40 : Cw 74 Lj81 fs30 gs31 (wR M39 0 10 (some 67)) := cw_R h39 (by decide) (by decide +kernel)
  generalize (wR M39 0 10 (some 67)) = M40 at h40 ⊢
  refine a_aload_n dX10_init_167 rfl rfl ?_
  refine a_new (ci := 5) (bc := 14) (bs := 23515) dX10_init_168 rfl (by decide) cl_X10_81 it_X5 ini_X5 (by rw [h40.1]; decide) (by rw [h40.1]; decide) ?_
  rw [h40.1]
  have h41 : Cw 75 Lj81 fs30 gs31 (nO M40 5) := cw_nO h40 rfl
  generalize (nO M40 5) = M41 at h41 ⊢
  refine a_dup dX10_init_171 rfl ?_
  refine a_aload_n dX10_init_172 rfl rfl ?_
  refine a_get (v := .ref 2) dX10_init_173 fl_10_16 (cw_l h41 (by decide)) (cw_s h41 (by decide) rfl) (cw_g h41 rfl (by decide +kernel)) ?_
  refine a_callI (As := [.ref 2]) (st := [.ref 74, .ref 0]) (a := 74) (bc := 9) (bs := 16635) (mc := 5) (ms := 6880) false dX10_init_176 mw_X5_init rfl (Or.inl ⟨rfl, ml_X10_83⟩) im_X5_init rfl (cw_l h41 (by decide)) rfl (by decide) (b_X5_init_74_75 (fr := fr) h41) (fun v M42 hq => ?_)
  obtain ⟨rfl, h42⟩ := hq
  refine a_putR dX10_init_179 (Or.inl ⟨fl_10_86, Or.inr ⟨rfl, rfl, rfl⟩⟩) rfl (cw_l h42 (by decide)) (cw_s h42 (by decide) rfl) ?_
  have h43 : Cw 80 Lj88 fs30 gs31 (wR M42 0 11 (some 74)) := cw_R h42 (by decide) (by decide +kernel)
  generalize (wR M42 0 11 (some 74)) = M43 at h43 ⊢
  refine a_aload_n dX10_init_182 rfl rfl ?_
  refine a_new (ci := 0) (bc := 8) (bs := 16624) dX10_init_183 rfl (by decide) cl_X10_90 it_X0 ini_X0 (by rw [h43.1]; decide) (by rw [h43.1]; decide) ?_
  rw [h43.1]
  have h44 : Cw 81 Lj88 fs30 gs31 (nO M43 0) := cw_nO h43 rfl
  generalize (nO M43 0) = M44 at h44 ⊢
  refine a_dup dX10_init_186 rfl ?_
  refine a_aload_n dX10_init_187 rfl rfl ?_
  refine a_get (v := .ref 74) dX10_init_188 fl_10_86 (cw_l h44 (by decide)) (cw_s h44 (by decide) rfl) (cw_g h44 rfl (by decide +kernel)) ?_
  refine a_callI (As := [.ref 74]) (st := [.ref 80, .ref 0]) (a := 80) (bc := 3) (bs := 120) (mc := 5) (ms := 16504) false dX10_init_191 mw_X0_init rfl (Or.inl ⟨rfl, ml_X10_92⟩) im_X0_init rfl (cw_l h44 (by decide)) rfl (by decide) (b_X0_init_80_81 (fr := fr) h44) (fun v M45 hq => ?_)
  obtain ⟨rfl, h45⟩ := hq
  refine a_putR dX10_init_194 (Or.inl ⟨fl_10_95, Or.inr ⟨rfl, rfl, rfl⟩⟩) rfl (cw_l h45 (by decide)) (cw_s h45 (by decide) rfl) ?_
  have h46 : Cw 86 Lj95 fs30 gs31 (wR M45 0 12 (some 80)) := cw_R h45 (by decide) (by decide +kernel)
  generalize (wR M45 0 12 (some 80)) = M46 at h46 ⊢
  refine a_aload_n dX10_init_197 rfl rfl ?_
  refine a_bipush (v := 60) dX10_init_198 (by decide) ?_
  refine a_skip h46.1 ?_
  have h47 : Cw 87 Lj95 fs30 gs31 (nO M46 99) := cw_nO h46 rfl
  generalize (nO M46 99) = M47 at h47 ⊢
  refine a_newarray (t := 1) (n := 60) (at_ := .int) (ty := .int) (bc := 2) (bs := 60) (Or.inr (Or.inl ⟨rfl, rfl, rfl⟩)) dX10_init_200 rfl ay_int (by decide) (by decide) (by decide) (by rw [h47.1]; decide) (by rw [h47.1]; decide) ?_
  rw [h47.1]
  have h48 : Cw 88 Lj95 fs30 gs31 (nA M47 1 60) := cw_nA h47 rfl
  generalize (nA M47 1 60) = M48 at h48 ⊢
  refine a_putR dX10_init_202 (Or.inl ⟨fl_10_99, Or.inr ⟨rfl, rfl, rfl⟩⟩) rfl (cw_l h48 (by decide)) (cw_s h48 (by decide) rfl) ?_
  have h49 : Cw 88 Lj96 fs30 gs31 (wR M48 0 13 (some 87)) := cw_R h48 (by decide) (by decide +kernel)
  generalize (wR M48 0 13 (some 87)) = M49 at h49 ⊢
  refine a_aload_n dX10_init_205 rfl rfl ?_
  refine a_bipush (v := 60) dX10_init_206 (by decide) ?_
  refine a_newarray (t := 1) (n := 60) (at_ := .int) (ty := .int) (bc := 1) (bs := 0) (Or.inr (Or.inl ⟨rfl, rfl, rfl⟩)) dX10_init_208 rfl ay_int (by decide) (by decide) (by decide) (by rw [h49.1]; decide) (by rw [h49.1]; decide) ?_
  rw [h49.1]
  have h50 : Cw 89 Lj96 fs30 gs31 (nA M49 1 60) := cw_nA h49 rfl
  generalize (nA M49 1 60) = M50 at h50 ⊢
  refine a_putR dX10_init_210 (Or.inl ⟨fl_10_102, Or.inr ⟨rfl, rfl, rfl⟩⟩) rfl (cw_l h50 (by decide)) (cw_s h50 (by decide) rfl) ?_
  have h51 : Cw 89 Lj97 fs30 gs31 (wR M50 0 14 (some 88)) := cw_R h50 (by decide) (by decide +kernel)
  generalize (wR M50 0 14 (some 88)) = M51 at h51 ⊢
  refine a_aload_n dX10_init_213 rfl rfl ?_
  refine a_iconst (v := 0) dX10_init_214 (by decide) ?_
  refine a_putI dX10_init_215 (Or.inl ⟨fl_10_105, Or.inl rfl⟩) rfl (cw_l h51 (by decide)) (cw_s h51 (by decide) rfl) rfl rfl ?_
  have h52 : Cw 89 Lj97 fs31 gs31 (wI M51 0 16 0) := cw_I h51 (by decide)
  generalize (wI M51 0 16 0) = M52 at h52 ⊢
  refine a_aload_n dX10_init_218 rfl rfl ?_
  refine a_iconst (v := 1) dX10_init_219 (by decide) ?_
  refine a_putI dX10_init_220 (Or.inl ⟨fl_10_109, Or.inl rfl⟩) rfl (cw_l h52 (by decide)) (cw_s h52 (by decide) rfl) rfl rfl ?_
  have h53 : Cw 89 Lj97 fs32 gs31 (wI M52 0 17 1) := cw_I h52 (by decide)
  generalize (wI M52 0 17 1) = M53 at h53 ⊢
  exact a_vret dX10_init_223 rfl ⟨rfl, h53⟩
