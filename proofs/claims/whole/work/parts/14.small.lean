/-! SMALL METHODS -/
abbrev iushr (x y : Int32) : Int32 := (x.toUInt32 >>> (y.toUInt32 &&& Int32.toUInt32 31)).toInt32
abbrev lushr (x : Int64) (y : Int32) : Int64 := (x.toUInt64 >>> (y.toInt64.toUInt64 &&& Int64.toUInt64 63)).toInt64
theorem vin_of {i : Int32} {n : Nat} {m : Int32} (h0 : ¬ i < 0) (h1 : ¬ m ≤ i) (hn : n < 2 ^ 31 := by decide) (hm : Int32.ofNat n = m := by decide) : vp_in i n := by
  rw [vp_in_iff]
  have e : m.toInt = n := by rw [← hm]; exact nI_toInt hn
  constructor
  · exact Int32.le_iff_toInt_le.mp (Int32.not_lt.mp h0)
  · rw [← e]; exact Int32.lt_iff_toInt_lt.mp (Int32.not_le.mp h1)
theorem vin_le {i c : Int32} {n : Nat} {m : Int32} (h0 : ¬ i < 0) (h1 : ¬ c ≤ i) (hc : c ≤ m) (hn : n < 2 ^ 31 := by decide) (hm : Int32.ofNat n = m := by decide) : vp_in i n := by
  rw [vp_in_iff]
  have e : m.toInt = n := by rw [← hm]; exact nI_toInt hn
  have h2 := Int32.lt_iff_toInt_lt.mp (Int32.not_le.mp h1)
  have h3 := Int32.le_iff_toInt_le.mp hc
  constructor
  · exact Int32.le_iff_toInt_le.mp (Int32.not_lt.mp h0)
  · omega
set_option maxHeartbeats 4000000 in
set_option maxRecDepth 100000 in
/-- is it no slot -/
theorem k_noSlot {X : Nat × (Nat → Int32)} {M : Mem} {al : Bool} {fr : Nat} (x : Int32) : AM yX10_noSlot cX10_noSlot 1 (some .boolean) al fr 0 0 X [.int x] M (fun v M1 => v = some (.int (if x < 0 ∨ 4 ≤ x then 1 else 0)) ∧ M1 = M) := by
  refine AM.of false (by decide +kernel) (by first | (intro _; rfl) | (intro h; cases h)) (Nat.le_of_ble_eq_true rfl) ?_
  show AW X (RX10, cX10_noSlot, 1, (some .boolean), false, al, fr) 0 0 0 [(0, .int x)] [] M _
  refine a_iload_n dX10_noSlot_0 rfl rfl ?_
  refine a_if_lt 9 dX10_noSlot_1 (by decide) (fun c1 => ?_) (fun c1 => ?_)
  · refine a_iconst (v := 1) dX10_noSlot_9 (by decide) ?_
    refine a_goto 14 dX10_noSlot_10 (by decide) ?_
    exact a_zret dX10_noSlot_14 rfl rfl (⟨by simp [*], rfl⟩)
  · refine a_iload_n dX10_noSlot_4 rfl rfl ?_
    refine a_iconst (v := 4) dX10_noSlot_5 (by decide) ?_
    refine a_icmp_lt 13 dX10_noSlot_6 (by decide) (fun c2 => ?_) (fun c2 => ?_)
    · refine a_iconst (v := 0) dX10_noSlot_13 (by decide) ?_
      exact a_zret dX10_noSlot_14 rfl rfl (⟨by simp [*], rfl⟩)
    · refine a_iconst (v := 1) dX10_noSlot_9 (by decide) ?_
      refine a_goto 14 dX10_noSlot_10 (by decide) ?_
      exact a_zret dX10_noSlot_14 rfl rfl (⟨by simp [*], rfl⟩)

set_option maxHeartbeats 4000000 in
set_option maxRecDepth 100000 in
theorem k_wordLength {X : Nat × (Nat → Int32)} {M : Mem} {al : Bool} {fr : Nat} (x : Int32) : AM yX10_wordLength cX10_wordLength 1 (some .int) al fr 0 0 X [.int x] M (fun v M1 => v = some (.int (if x < 0 then 0 else if 22 ≤ x then 0 else wlF x.toNatClampNeg)) ∧ M1 = M) := by
  refine AM.of false (by decide +kernel) (by first | (intro _; rfl) | (intro h; cases h)) (Nat.le_of_ble_eq_true rfl) ?_
  show AW X (RX10, cX10_wordLength, 1, (some .int), false, al, fr) 0 0 0 [(0, .int x)] [] M _
  refine a_iload_n dX10_wordLength_0 rfl rfl ?_
  refine a_if_lt 18 dX10_wordLength_1 (by decide) (fun c1 => ?_) (fun c1 => ?_)
  · refine a_iconst (v := 0) dX10_wordLength_18 (by decide) ?_
    exact a_iret dX10_wordLength_19 rfl (⟨by simp [*], rfl⟩)
  · refine a_iload_n dX10_wordLength_4 rfl rfl ?_
    refine a_bipush (v := 22) dX10_wordLength_5 (by decide) ?_
    refine a_icmp_ge 18 dX10_wordLength_7 (by decide) (fun c2 => ?_) (fun c2 => ?_)
    · refine a_iconst (v := 0) dX10_wordLength_18 (by decide) ?_
      exact a_iret dX10_wordLength_19 rfl (⟨by simp [*], rfl⟩)
    · refine a_stWL dX10_wordLength_10 sf_X10_336 ?_
      refine a_iload_n dX10_wordLength_13 rfl rfl ?_
      refine a_ldWL dX10_wordLength_14 (vin_of (by assumption) (by assumption)) ?_
      refine a_goto 19 dX10_wordLength_15 (by decide) ?_
      exact a_iret dX10_wordLength_19 rfl (⟨by simp [*], rfl⟩)

set_option maxHeartbeats 4000000 in
set_option maxRecDepth 100000 in
theorem k_kindOf {X : Nat × (Nat → Int32)} {M : Mem} {al : Bool} {fr : Nat} (hW : Wd M) (hm : (M.2.2.1 2 7) ≤ 5200) (x : Int32) : AM yX1_kindOf cX1_kindOf 2 (some .int) al fr 0 0 X [.ref 2, .int x] M (fun v M1 => v = some (.int (if x < 0 then -1 else if M.2.2.1 2 7 ≤ x then -1 else M.2.2.1 3 x.toNatClampNeg)) ∧ M1 = M) := by
  refine AM.of false (by decide +kernel) (by first | (intro _; rfl) | (intro h; cases h)) (Nat.le_of_ble_eq_true rfl) ?_
  show AW X (RX1, cX1_kindOf, 2, (some .int), false, al, fr) 0 0 0 [(0, .ref 2), (1, .int x)] [] M _
  refine a_iload_n dX1_kindOf_0 rfl rfl ?_
  refine a_if_lt 21 dX1_kindOf_1 (by decide) (fun c1 => ?_) (fun c1 => ?_)
  · refine a_iconst (v := -1) dX1_kindOf_21 (by decide) ?_
    exact a_iret dX1_kindOf_22 rfl (⟨by simp [*], rfl⟩)
  · refine a_iload_n dX1_kindOf_4 rfl rfl ?_
    refine a_aload_n dX1_kindOf_5 rfl rfl ?_
    refine a_get (v := .int (M.2.2.1 2 7)) dX1_kindOf_6 fl_1_38 (l_2 hW) (s_2 hW) rfl ?_
    refine a_icmp_ge 21 dX1_kindOf_9 (by decide) (fun c2 => ?_) (fun c2 => ?_)
    · refine a_iconst (v := -1) dX1_kindOf_21 (by decide) ?_
      exact a_iret dX1_kindOf_22 rfl (⟨by simp [*], rfl⟩)
    · refine a_aload_n dX1_kindOf_12 rfl rfl ?_
      refine a_get (v := .ref 3) dX1_kindOf_13 fl_1_11 (l_2 hW) (s_2 hW) (g_2_0 hW) ?_
      refine a_iload_n dX1_kindOf_16 rfl rfl ?_
      refine a_iaload dX1_kindOf_17 (l_3 hW) (s_3 hW) (vin_le (by assumption) (by assumption) hm) ?_
      refine a_goto 22 dX1_kindOf_18 (by decide) ?_
      exact a_iret dX1_kindOf_22 rfl (⟨by simp [*], rfl⟩)

set_option maxHeartbeats 4000000 in
set_option maxRecDepth 100000 in
theorem k_leftOf {X : Nat × (Nat → Int32)} {M : Mem} {al : Bool} {fr : Nat} (hW : Wd M) (hm : (M.2.2.1 2 7) ≤ 5200) (x : Int32) : AM yX1_leftOf cX1_leftOf 2 (some .int) al fr 0 0 X [.ref 2, .int x] M (fun v M1 => v = some (.int (if x < 0 then -1 else if M.2.2.1 2 7 ≤ x then -1 else M.2.2.1 4 x.toNatClampNeg)) ∧ M1 = M) := by
  refine AM.of false (by decide +kernel) (by first | (intro _; rfl) | (intro h; cases h)) (Nat.le_of_ble_eq_true rfl) ?_
  show AW X (RX1, cX1_leftOf, 2, (some .int), false, al, fr) 0 0 0 [(0, .ref 2), (1, .int x)] [] M _
  refine a_iload_n dX1_leftOf_0 rfl rfl ?_
  refine a_if_lt 21 dX1_leftOf_1 (by decide) (fun c1 => ?_) (fun c1 => ?_)
  · refine a_iconst (v := -1) dX1_leftOf_21 (by decide) ?_
    exact a_iret dX1_leftOf_22 rfl (⟨by simp [*], rfl⟩)
  · refine a_iload_n dX1_leftOf_4 rfl rfl ?_
    refine a_aload_n dX1_leftOf_5 rfl rfl ?_
    refine a_get (v := .int (M.2.2.1 2 7)) dX1_leftOf_6 fl_1_38 (l_2 hW) (s_2 hW) rfl ?_
    refine a_icmp_ge 21 dX1_leftOf_9 (by decide) (fun c2 => ?_) (fun c2 => ?_)
    · refine a_iconst (v := -1) dX1_leftOf_21 (by decide) ?_
      exact a_iret dX1_leftOf_22 rfl (⟨by simp [*], rfl⟩)
    · refine a_aload_n dX1_leftOf_12 rfl rfl ?_
      refine a_get (v := .ref 4) dX1_leftOf_13 fl_1_15 (l_2 hW) (s_2 hW) (g_2_1 hW) ?_
      refine a_iload_n dX1_leftOf_16 rfl rfl ?_
      refine a_iaload dX1_leftOf_17 (l_4 hW) (s_4 hW) (vin_le (by assumption) (by assumption) hm) ?_
      refine a_goto 22 dX1_leftOf_18 (by decide) ?_
      exact a_iret dX1_leftOf_22 rfl (⟨by simp [*], rfl⟩)

set_option maxHeartbeats 4000000 in
set_option maxRecDepth 100000 in
theorem k_rightOf {X : Nat × (Nat → Int32)} {M : Mem} {al : Bool} {fr : Nat} (hW : Wd M) (hm : (M.2.2.1 2 7) ≤ 5200) (x : Int32) : AM yX1_rightOf cX1_rightOf 2 (some .int) al fr 0 0 X [.ref 2, .int x] M (fun v M1 => v = some (.int (if x < 0 then -1 else if M.2.2.1 2 7 ≤ x then -1 else M.2.2.1 5 x.toNatClampNeg)) ∧ M1 = M) := by
  refine AM.of false (by decide +kernel) (by first | (intro _; rfl) | (intro h; cases h)) (Nat.le_of_ble_eq_true rfl) ?_
  show AW X (RX1, cX1_rightOf, 2, (some .int), false, al, fr) 0 0 0 [(0, .ref 2), (1, .int x)] [] M _
  refine a_iload_n dX1_rightOf_0 rfl rfl ?_
  refine a_if_lt 21 dX1_rightOf_1 (by decide) (fun c1 => ?_) (fun c1 => ?_)
  · refine a_iconst (v := -1) dX1_rightOf_21 (by decide) ?_
    exact a_iret dX1_rightOf_22 rfl (⟨by simp [*], rfl⟩)
  · refine a_iload_n dX1_rightOf_4 rfl rfl ?_
    refine a_aload_n dX1_rightOf_5 rfl rfl ?_
    refine a_get (v := .int (M.2.2.1 2 7)) dX1_rightOf_6 fl_1_38 (l_2 hW) (s_2 hW) rfl ?_
    refine a_icmp_ge 21 dX1_rightOf_9 (by decide) (fun c2 => ?_) (fun c2 => ?_)
    · refine a_iconst (v := -1) dX1_rightOf_21 (by decide) ?_
      exact a_iret dX1_rightOf_22 rfl (⟨by simp [*], rfl⟩)
    · refine a_aload_n dX1_rightOf_12 rfl rfl ?_
      refine a_get (v := .ref 5) dX1_rightOf_13 fl_1_18 (l_2 hW) (s_2 hW) (g_2_2 hW) ?_
      refine a_iload_n dX1_rightOf_16 rfl rfl ?_
      refine a_iaload dX1_rightOf_17 (l_5 hW) (s_5 hW) (vin_le (by assumption) (by assumption) hm) ?_
      refine a_goto 22 dX1_rightOf_18 (by decide) ?_
      exact a_iret dX1_rightOf_22 rfl (⟨by simp [*], rfl⟩)

