/-! TEXTS -/
def tch (i j : Nat) : Int32 := (tbs i).getD j 0 &&& 255
theorem vin_0 {i : Int32} {n : Nat} (h : vp_in i n) : ¬ i < 0 := fun q => h (Or.inl q)
theorem vin_1 {i m : Int32} {n : Nat} (h : vp_in i n) (hn : n < 2 ^ 31) (hm : Int32.ofNat n = m) : i < m := by
  have h1 := (vp_in_iff.mp h).2
  apply Int32.lt_iff_toInt_lt.mpr
  have e : m.toInt = n := by rw [← hm]; exact nI_toInt hn
  omega
set_option maxHeartbeats 4000000 in
set_option maxRecDepth 100000 in
theorem k_chk3 {X : Nat × (Nat → Int32)} {M : Mem} {al : Bool} {fr : Nat} {i n : Int32} {w : Value} (h0 : ¬ i < 0) (h1 : i < n) (hw : w.category = 1) : AM yJ3_checkIndex_8e157 cJ3_checkIndex_8e157 3 (some .int) al fr 0 0 X [.int i, .int n, w] M (fun v M1 => v = some (.int i) ∧ M1 = M) := by
  refine AM.of false (by decide +kernel) (by first | (intro _; rfl) | (intro h; cases h)) (by simp [lg_sl, hw, show (Value.int i).category = 1 from rfl, show (Value.int n).category = 1 from rfl]) ?_
  have hlv : lv_args 0 [Value.int i, Value.int n, w] = [(0, .int i), (1, .int n), (2, w)] := rfl
  show AW X (RJ3, cJ3_checkIndex_8e157, 3, (some .int), false, al, fr) 0 0 0 [(0, .int i), (1, .int n), (2, w)] [] M _
  refine a_iload_n dJ3_checkIndex_8e157_0 rfl rfl ?_
  refine a_if_lt 9 dJ3_checkIndex_8e157_1 (by decide) (fun c1 => absurd c1 (h0)) (fun c1 => ?_)
  refine a_iload_n dJ3_checkIndex_8e157_4 rfl rfl ?_
  refine a_iload_n dJ3_checkIndex_8e157_5 rfl rfl ?_
  refine a_icmp_lt 16 dJ3_checkIndex_8e157_6 (by decide) (fun c2 => ?_) (fun c2 => absurd (h1) c2)
  refine a_iload_n dJ3_checkIndex_8e157_16 rfl rfl ?_
  exact a_iret dJ3_checkIndex_8e157_17 rfl (⟨rfl, rfl⟩)

set_option maxHeartbeats 4000000 in
set_option maxRecDepth 100000 in
theorem k_chk0 {X : Nat × (Nat → Int32)} {M : Mem} {al : Bool} {fr : Nat} {i n : Int32} (h0 : ¬ i < 0) (h1 : i < n) : AM yJ0_checkIndex_df160 cJ0_checkIndex_df160 2 none al (fr + 1) 0 0 X [.int i, .int n] M (fun v M1 => v = none ∧ M1 = M) := by
  refine AM.of false (by decide +kernel) (by first | (intro _; rfl) | (intro h; cases h)) (Nat.le_of_ble_eq_true rfl) ?_
  show AW X (RJ0, cJ0_checkIndex_df160, 2, none, false, al, (fr + 1)) 0 0 0 [(0, .int i), (1, .int n)] [] M _
  refine a_iload_n dJ0_checkIndex_df160_0 rfl rfl ?_
  refine a_iload_n dJ0_checkIndex_df160_1 rfl rfl ?_
  refine a_stFM dJ0_checkIndex_df160_2 sf_J0_1053 (fun w hv1 => ?_)
  refine a_callS (As := [.int i, .int n, w]) false dJ0_checkIndex_df160_5 mw_J3_checkIndex_8e157 rfl (Or.inl ⟨rfl, ml_J0_1059⟩) sm_J3_checkIndex_8e157 rfl (Nat.le_of_ble_eq_true rfl) (k_chk3 (fr := fr) h0 h1 (by rcases hv1 with rfl | rfl <;> rfl)) (fun v M1 hq => ?_)
  obtain ⟨rfl, rfl⟩ := hq
  refine a_pop dJ0_checkIndex_df160_8 rfl ?_
  exact a_vret dJ0_checkIndex_df160_9 rfl (⟨rfl, rfl⟩)

set_option maxHeartbeats 4000000 in
set_option maxRecDepth 100000 in
theorem k_chL0 {X : Nat × (Nat → Int32)} {M : Mem} {al : Bool} {fr : Nat} {j : Int32} (h : vp_in j 110) : AM yJ1_charAt_3b067 cJ1_charAt_3b067 2 (some .char) al (fr + 2) 0 0 X [.ref 1000006, .int j] M (fun v M1 => v = some (.int (tch 0 j.toNatClampNeg)) ∧ M1 = M) := by
  refine AM.of false (by decide +kernel) (by first | (intro _; rfl) | (intro h; cases h)) (Nat.le_of_ble_eq_true rfl) ?_
  show AW X (RJ1, cJ1_charAt_3b067, 2, (some .char), false, al, (fr + 2)) 0 0 0 [(0, .ref 1000006), (1, .int j)] [] M _
  refine a_iload_n dJ1_charAt_3b067_0 rfl rfl ?_
  refine a_aload_n dJ1_charAt_3b067_1 rfl rfl ?_
  refine a_lenB (i := 0) (v := 110) (by decide) dJ1_charAt_3b067_2 (by decide) ?_
  refine a_callS (As := [.int j, .int 110]) false dJ1_charAt_3b067_3 mw_J0_checkIndex_df160 rfl (Or.inl ⟨rfl, ml_J1_9⟩) sm_J0_checkIndex_df160 rfl (Nat.le_of_ble_eq_true rfl) (k_chk0 (fr := fr) (vin_0 h) (vin_1 h (by decide) (by decide))) (fun v M1 hq => ?_)
  obtain ⟨rfl, rfl⟩ := hq
  refine a_aload_n dJ1_charAt_3b067_6 rfl rfl ?_
  refine a_iload_n dJ1_charAt_3b067_7 rfl rfl ?_
  refine a_ldB (i := 0) (by decide) dJ1_charAt_3b067_8 h ?_
  refine a_sipush (v := 255) dJ1_charAt_3b067_9 (by decide) ?_
  refine a_iand dJ1_charAt_3b067_12 ?_
  refine a_i2c dJ1_charAt_3b067_13 ?_
  refine a_st (st2 := [.int (tch 0 j.toNatClampNeg)]) (by rw [sc_c2]; rfl) ?_
  exact a_zret dJ1_charAt_3b067_14 rfl (sc_nar _) ⟨rfl, rfl⟩

set_option maxHeartbeats 4000000 in
set_option maxRecDepth 100000 in
theorem k_lat0 {X : Nat × (Nat → Int32)} {M : Mem} {al : Bool} {fr : Nat} : AM yJ0_isLatin1_aae02 cJ0_isLatin1_aae02 1 (some .boolean) al fr 0 0 X [.ref 1000004] M (fun v M1 => v = some (.int 1) ∧ M1 = M) := by
  refine AM.of false (by decide +kernel) (by first | (intro _; rfl) | (intro h; cases h)) (Nat.le_of_ble_eq_true rfl) ?_
  show AW X (RJ0, cJ0_isLatin1_aae02, 1, (some .boolean), false, al, fr) 0 0 0 [(0, .ref 1000004)] [] M _
  refine a_stCS dJ0_isLatin1_aae02_0 sf_J0_38 ?_
  refine a_if_eq 17 dJ0_isLatin1_aae02_3 (by decide) (fun c1 => absurd c1 (by decide)) (fun c1 => ?_)
  refine a_aload_n dJ0_isLatin1_aae02_6 rfl rfl ?_
  refine a_strC (i := 0) (by decide) dJ0_isLatin1_aae02_7 sf_J0_15 ?_
  refine a_if_ne 17 dJ0_isLatin1_aae02_10 (by decide) (fun c2 => absurd (by decide) c2) (fun c2 => ?_)
  refine a_iconst (v := 1) dJ0_isLatin1_aae02_13 (by decide) ?_
  refine a_goto 18 dJ0_isLatin1_aae02_14 (by decide) ?_
  exact a_zret dJ0_isLatin1_aae02_18 rfl rfl (⟨rfl, rfl⟩)

set_option maxHeartbeats 4000000 in
set_option maxRecDepth 100000 in
theorem k_charAt0 {X : Nat × (Nat → Int32)} {M : Mem} {al : Bool} {fr : Nat} {j : Int32} (h : vp_in j 110) : AM yJ0_charAt_5068e cJ0_charAt_5068e 2 (some .char) al (fr + 3) 0 0 X [.ref 1000004, .int j] M (fun v M1 => v = some (.int (tch 0 j.toNatClampNeg)) ∧ M1 = M) := by
  refine AM.of false (by decide +kernel) (by first | (intro _; rfl) | (intro h; cases h)) (Nat.le_of_ble_eq_true rfl) ?_
  show AW X (RJ0, cJ0_charAt_5068e, 2, (some .char), false, al, (fr + 3)) 0 0 0 [(0, .ref 1000004), (1, .int j)] [] M _
  refine a_aload_n dJ0_charAt_5068e_0 rfl rfl ?_
  refine a_callT (As := []) (i := 0) dJ0_charAt_5068e_1 mw_J0_isLatin1_aae02 rfl ml_J0_492 im_J0_isLatin1_aae02 se_J0_isLatin1_aae02 (by decide) rfl (Nat.le_of_ble_eq_true rfl) (k_lat0 (fr := fr + 2)) (fun v M1 hq => ?_)
  obtain ⟨rfl, rfl⟩ := hq
  refine a_if_eq 16 dJ0_charAt_5068e_4 (by decide) (fun c1 => absurd c1 (by decide)) (fun c1 => ?_)
  refine a_aload_n dJ0_charAt_5068e_7 rfl rfl ?_
  refine a_strV (i := 0) (by decide) dJ0_charAt_5068e_8 sf_J0_9 ?_
  refine a_iload_n dJ0_charAt_5068e_11 rfl rfl ?_
  refine a_callS (As := [.ref 1000006, .int j]) false dJ0_charAt_5068e_12 mw_J1_charAt_3b067 rfl (Or.inl ⟨rfl, ml_J0_495⟩) sm_J1_charAt_3b067 rfl (Nat.le_of_ble_eq_true rfl) (k_chL0 (fr := fr) h) (fun v M1 hq => ?_)
  obtain ⟨rfl, rfl⟩ := hq
  exact a_zret dJ0_charAt_5068e_15 rfl (sc_nar _) (⟨rfl, rfl⟩)

set_option maxHeartbeats 4000000 in
set_option maxRecDepth 100000 in
theorem k_coder0 {X : Nat × (Nat → Int32)} {M : Mem} {al : Bool} {fr : Nat} : AM yJ0_coder_7d493 cJ0_coder_7d493 1 (some FieldType.byte) al fr 0 0 X [.ref 1000004] M (fun v M1 => v = some (.int 0) ∧ M1 = M) := by
  refine AM.of false (by decide +kernel) (by first | (intro _; rfl) | (intro h; cases h)) (Nat.le_of_ble_eq_true rfl) ?_
  show AW X (RJ0, cJ0_coder_7d493, 1, (some FieldType.byte), false, al, fr) 0 0 0 [(0, .ref 1000004)] [] M _
  refine a_stCS dJ0_coder_7d493_0 sf_J0_38 ?_
  refine a_if_eq 13 dJ0_coder_7d493_3 (by decide) (fun c1 => absurd c1 (by decide)) (fun c1 => ?_)
  refine a_aload_n dJ0_coder_7d493_6 rfl rfl ?_
  refine a_strC (i := 0) (by decide) dJ0_coder_7d493_7 sf_J0_15 ?_
  refine a_goto 14 dJ0_coder_7d493_10 (by decide) ?_
  exact a_zret dJ0_coder_7d493_14 rfl rfl (⟨rfl, rfl⟩)

set_option maxHeartbeats 4000000 in
set_option maxRecDepth 100000 in
theorem k_tlen0 {X : Nat × (Nat → Int32)} {M : Mem} {al : Bool} {fr : Nat} : AM yJ0_length_8abf5 cJ0_length_8abf5 1 (some .int) al (fr + 1) 0 0 X [.ref 1000004] M (fun v M1 => v = some (.int 110) ∧ M1 = M) := by
  refine AM.of false (by decide +kernel) (by first | (intro _; rfl) | (intro h; cases h)) (Nat.le_of_ble_eq_true rfl) ?_
  show AW X (RJ0, cJ0_length_8abf5, 1, (some .int), false, al, (fr + 1)) 0 0 0 [(0, .ref 1000004)] [] M _
  refine a_aload_n dJ0_length_8abf5_0 rfl rfl ?_
  refine a_strV (i := 0) (by decide) dJ0_length_8abf5_1 sf_J0_9 ?_
  refine a_lenB (i := 0) (v := 110) (by decide) dJ0_length_8abf5_4 (by decide) ?_
  refine a_aload_n dJ0_length_8abf5_5 rfl rfl ?_
  refine a_callT (As := []) (i := 0) dJ0_length_8abf5_6 mw_J0_coder_7d493 rfl ml_J0_335 im_J0_coder_7d493 se_J0_coder_7d493 (by decide) rfl (Nat.le_of_ble_eq_true rfl) (k_coder0 (fr := fr)) (fun v M1 hq => ?_)
  obtain ⟨rfl, rfl⟩ := hq
  refine a_ishr dJ0_length_8abf5_9 ?_
  exact a_iret dJ0_length_8abf5_10 rfl (⟨by decide +kernel, rfl⟩)

set_option maxHeartbeats 4000000 in
set_option maxRecDepth 100000 in
theorem k_chL1 {X : Nat × (Nat → Int32)} {M : Mem} {al : Bool} {fr : Nat} {j : Int32} (h : vp_in j 74) : AM yJ1_charAt_3b067 cJ1_charAt_3b067 2 (some .char) al (fr + 2) 0 0 X [.ref 1000007, .int j] M (fun v M1 => v = some (.int (tch 1 j.toNatClampNeg)) ∧ M1 = M) := by
  refine AM.of false (by decide +kernel) (by first | (intro _; rfl) | (intro h; cases h)) (Nat.le_of_ble_eq_true rfl) ?_
  show AW X (RJ1, cJ1_charAt_3b067, 2, (some .char), false, al, (fr + 2)) 0 0 0 [(0, .ref 1000007), (1, .int j)] [] M _
  refine a_iload_n dJ1_charAt_3b067_0 rfl rfl ?_
  refine a_aload_n dJ1_charAt_3b067_1 rfl rfl ?_
  refine a_lenB (i := 1) (v := 74) (by decide) dJ1_charAt_3b067_2 (by decide) ?_
  refine a_callS (As := [.int j, .int 74]) false dJ1_charAt_3b067_3 mw_J0_checkIndex_df160 rfl (Or.inl ⟨rfl, ml_J1_9⟩) sm_J0_checkIndex_df160 rfl (Nat.le_of_ble_eq_true rfl) (k_chk0 (fr := fr) (vin_0 h) (vin_1 h (by decide) (by decide))) (fun v M1 hq => ?_)
  obtain ⟨rfl, rfl⟩ := hq
  refine a_aload_n dJ1_charAt_3b067_6 rfl rfl ?_
  refine a_iload_n dJ1_charAt_3b067_7 rfl rfl ?_
  refine a_ldB (i := 1) (by decide) dJ1_charAt_3b067_8 h ?_
  refine a_sipush (v := 255) dJ1_charAt_3b067_9 (by decide) ?_
  refine a_iand dJ1_charAt_3b067_12 ?_
  refine a_i2c dJ1_charAt_3b067_13 ?_
  refine a_st (st2 := [.int (tch 1 j.toNatClampNeg)]) (by rw [sc_c2]; rfl) ?_
  exact a_zret dJ1_charAt_3b067_14 rfl (sc_nar _) ⟨rfl, rfl⟩

set_option maxHeartbeats 4000000 in
set_option maxRecDepth 100000 in
theorem k_lat1 {X : Nat × (Nat → Int32)} {M : Mem} {al : Bool} {fr : Nat} : AM yJ0_isLatin1_aae02 cJ0_isLatin1_aae02 1 (some .boolean) al fr 0 0 X [.ref 1000005] M (fun v M1 => v = some (.int 1) ∧ M1 = M) := by
  refine AM.of false (by decide +kernel) (by first | (intro _; rfl) | (intro h; cases h)) (Nat.le_of_ble_eq_true rfl) ?_
  show AW X (RJ0, cJ0_isLatin1_aae02, 1, (some .boolean), false, al, fr) 0 0 0 [(0, .ref 1000005)] [] M _
  refine a_stCS dJ0_isLatin1_aae02_0 sf_J0_38 ?_
  refine a_if_eq 17 dJ0_isLatin1_aae02_3 (by decide) (fun c1 => absurd c1 (by decide)) (fun c1 => ?_)
  refine a_aload_n dJ0_isLatin1_aae02_6 rfl rfl ?_
  refine a_strC (i := 1) (by decide) dJ0_isLatin1_aae02_7 sf_J0_15 ?_
  refine a_if_ne 17 dJ0_isLatin1_aae02_10 (by decide) (fun c2 => absurd (by decide) c2) (fun c2 => ?_)
  refine a_iconst (v := 1) dJ0_isLatin1_aae02_13 (by decide) ?_
  refine a_goto 18 dJ0_isLatin1_aae02_14 (by decide) ?_
  exact a_zret dJ0_isLatin1_aae02_18 rfl rfl (⟨rfl, rfl⟩)

set_option maxHeartbeats 4000000 in
set_option maxRecDepth 100000 in
theorem k_charAt1 {X : Nat × (Nat → Int32)} {M : Mem} {al : Bool} {fr : Nat} {j : Int32} (h : vp_in j 74) : AM yJ0_charAt_5068e cJ0_charAt_5068e 2 (some .char) al (fr + 3) 0 0 X [.ref 1000005, .int j] M (fun v M1 => v = some (.int (tch 1 j.toNatClampNeg)) ∧ M1 = M) := by
  refine AM.of false (by decide +kernel) (by first | (intro _; rfl) | (intro h; cases h)) (Nat.le_of_ble_eq_true rfl) ?_
  show AW X (RJ0, cJ0_charAt_5068e, 2, (some .char), false, al, (fr + 3)) 0 0 0 [(0, .ref 1000005), (1, .int j)] [] M _
  refine a_aload_n dJ0_charAt_5068e_0 rfl rfl ?_
  refine a_callT (As := []) (i := 1) dJ0_charAt_5068e_1 mw_J0_isLatin1_aae02 rfl ml_J0_492 im_J0_isLatin1_aae02 se_J0_isLatin1_aae02 (by decide) rfl (Nat.le_of_ble_eq_true rfl) (k_lat1 (fr := fr + 2)) (fun v M1 hq => ?_)
  obtain ⟨rfl, rfl⟩ := hq
  refine a_if_eq 16 dJ0_charAt_5068e_4 (by decide) (fun c1 => absurd c1 (by decide)) (fun c1 => ?_)
  refine a_aload_n dJ0_charAt_5068e_7 rfl rfl ?_
  refine a_strV (i := 1) (by decide) dJ0_charAt_5068e_8 sf_J0_9 ?_
  refine a_iload_n dJ0_charAt_5068e_11 rfl rfl ?_
  refine a_callS (As := [.ref 1000007, .int j]) false dJ0_charAt_5068e_12 mw_J1_charAt_3b067 rfl (Or.inl ⟨rfl, ml_J0_495⟩) sm_J1_charAt_3b067 rfl (Nat.le_of_ble_eq_true rfl) (k_chL1 (fr := fr) h) (fun v M1 hq => ?_)
  obtain ⟨rfl, rfl⟩ := hq
  exact a_zret dJ0_charAt_5068e_15 rfl (sc_nar _) (⟨rfl, rfl⟩)

set_option maxHeartbeats 4000000 in
set_option maxRecDepth 100000 in
theorem k_coder1 {X : Nat × (Nat → Int32)} {M : Mem} {al : Bool} {fr : Nat} : AM yJ0_coder_7d493 cJ0_coder_7d493 1 (some FieldType.byte) al fr 0 0 X [.ref 1000005] M (fun v M1 => v = some (.int 0) ∧ M1 = M) := by
  refine AM.of false (by decide +kernel) (by first | (intro _; rfl) | (intro h; cases h)) (Nat.le_of_ble_eq_true rfl) ?_
  show AW X (RJ0, cJ0_coder_7d493, 1, (some FieldType.byte), false, al, fr) 0 0 0 [(0, .ref 1000005)] [] M _
  refine a_stCS dJ0_coder_7d493_0 sf_J0_38 ?_
  refine a_if_eq 13 dJ0_coder_7d493_3 (by decide) (fun c1 => absurd c1 (by decide)) (fun c1 => ?_)
  refine a_aload_n dJ0_coder_7d493_6 rfl rfl ?_
  refine a_strC (i := 1) (by decide) dJ0_coder_7d493_7 sf_J0_15 ?_
  refine a_goto 14 dJ0_coder_7d493_10 (by decide) ?_
  exact a_zret dJ0_coder_7d493_14 rfl rfl (⟨rfl, rfl⟩)

set_option maxHeartbeats 4000000 in
set_option maxRecDepth 100000 in
theorem k_tlen1 {X : Nat × (Nat → Int32)} {M : Mem} {al : Bool} {fr : Nat} : AM yJ0_length_8abf5 cJ0_length_8abf5 1 (some .int) al (fr + 1) 0 0 X [.ref 1000005] M (fun v M1 => v = some (.int 74) ∧ M1 = M) := by
  refine AM.of false (by decide +kernel) (by first | (intro _; rfl) | (intro h; cases h)) (Nat.le_of_ble_eq_true rfl) ?_
  show AW X (RJ0, cJ0_length_8abf5, 1, (some .int), false, al, (fr + 1)) 0 0 0 [(0, .ref 1000005)] [] M _
  refine a_aload_n dJ0_length_8abf5_0 rfl rfl ?_
  refine a_strV (i := 1) (by decide) dJ0_length_8abf5_1 sf_J0_9 ?_
  refine a_lenB (i := 1) (v := 74) (by decide) dJ0_length_8abf5_4 (by decide) ?_
  refine a_aload_n dJ0_length_8abf5_5 rfl rfl ?_
  refine a_callT (As := []) (i := 1) dJ0_length_8abf5_6 mw_J0_coder_7d493 rfl ml_J0_335 im_J0_coder_7d493 se_J0_coder_7d493 (by decide) rfl (Nat.le_of_ble_eq_true rfl) (k_coder1 (fr := fr)) (fun v M1 hq => ?_)
  obtain ⟨rfl, rfl⟩ := hq
  refine a_ishr dJ0_length_8abf5_9 ?_
  exact a_iret dJ0_length_8abf5_10 rfl (⟨by decide +kernel, rfl⟩)

set_option maxHeartbeats 4000000 in
set_option maxRecDepth 100000 in
theorem k_wordLetter {X : Nat × (Nat → Int32)} {M : Mem} {al : Bool} {fr : Nat} {c i : Int32} (hc0 : ¬ c < 0) (hc1 : ¬ 22 ≤ c) (h0 : ¬ i < 0) (h1 : i < wlF c.toNatClampNeg) (hj : vp_in (c * 5 + i) 110) : AM yX10_wordLetter cX10_wordLetter 2 (some .int) al (fr + 4) 0 0 X [.int c, .int i] M (fun v M1 => v = some (.int (tch 0 (c * 5 + i).toNatClampNeg)) ∧ M1 = M) := by
  refine AM.of false (by decide +kernel) (by first | (intro _; rfl) | (intro h; cases h)) (Nat.le_of_ble_eq_true rfl) ?_
  show AW X (RX10, cX10_wordLetter, 2, (some .int), false, al, (fr + 4)) 0 0 0 [(0, .int c), (1, .int i)] [] M _
  refine a_iload_n dX10_wordLetter_0 rfl rfl ?_
  refine a_if_lt 12 dX10_wordLetter_1 (by decide) (fun c1 => absurd c1 (h0)) (fun c1 => ?_)
  refine a_iload_n dX10_wordLetter_4 rfl rfl ?_
  refine a_iload_n dX10_wordLetter_5 rfl rfl ?_
  refine a_callS (As := [.int c]) false dX10_wordLetter_6 mw_X10_wordLength rfl (Or.inl ⟨rfl, ml_X10_339⟩) sm_X10_wordLength rfl (Nat.le_of_ble_eq_true rfl) (k_wordLength (fr := fr + 3) c) (fun v M1 hq => ?_)
  obtain ⟨rfl, rfl⟩ := hq
  refine a_icmp_lt 14 dX10_wordLetter_9 (by decide) (fun c2 => ?_) (fun c2 => absurd (by rw [if_neg hc0, if_neg hc1]; exact h1) c2)
  refine a_ldcA dX10_wordLetter_14 rfl ?_
  refine a_iload_n dX10_wordLetter_17 rfl rfl ?_
  refine a_iconst (v := 5) dX10_wordLetter_18 (by decide) ?_
  refine a_imul dX10_wordLetter_19 ?_
  refine a_iload_n dX10_wordLetter_20 rfl rfl ?_
  refine a_iadd dX10_wordLetter_21 ?_
  refine a_callT (As := [.int ((c * 5) + i)]) (i := 0) dX10_wordLetter_22 mw_J0_charAt_5068e rfl ml_X10_344 im_J0_charAt_5068e se_J0_charAt_5068e (by decide) rfl (Nat.le_of_ble_eq_true rfl) (k_charAt0 (fr := fr) hj) (fun v M1 hq => ?_)
  obtain ⟨rfl, rfl⟩ := hq
  exact a_iret dX10_wordLetter_25 rfl (⟨rfl, rfl⟩)

