/-! NUMBERS WITHIN BOUNDS, as longs -/
theorem tl_le (x y : Int32) : (x.toInt64 ≤ y.toInt64) ↔ x ≤ y := by
  rw [Int64.le_iff_toInt_le, Int32.le_iff_toInt_le, Int32.toInt_toInt64, Int32.toInt_toInt64]
theorem tl_lt (x y : Int32) : (x.toInt64 < y.toInt64) ↔ x < y := by
  rw [Int64.lt_iff_toInt_lt, Int32.lt_iff_toInt_lt, Int32.toInt_toInt64, Int32.toInt_toInt64]
/-- lcmp, then iflt -/
theorem lgl (x y : Int32) : (lg_cmp x.toInt64 y.toInt64 < 0) ↔ x < y := by
  rw [← Int32.not_le, lg_cmp_ge, tl_le, Int32.not_le]
def fZ (f : Nat → Nat → Int32) (a i : Nat) : Nat → Nat → Int32 := fun b k => if b = a ∧ k < i then 0 else f b k
theorem fZ0 {f : Nat → Nat → Int32} {a : Nat} : fZ f a 0 = f := by
  funext b k
  unfold fZ
  rw [if_neg (by omega)]
theorem fZ_s {f : Nat → Nat → Int32} {a i : Nat} : up2 (fZ f a i) a i 0 = fZ f a (i + 1) := by
  funext b k
  unfold up2 fZ
  by_cases h1 : b = a ∧ k = i
  · rw [if_pos h1, if_pos ⟨h1.1, by omega⟩]
  · rw [if_neg h1]
    by_cases h2 : b = a ∧ k < i
    · rw [if_pos h2, if_pos ⟨h2.1, by omega⟩]
    · rw [if_neg h2, if_neg (by omega)]
theorem fZ_a {f : Nat → Nat → Int32} {a i b k : Nat} (h : b ≠ a) : fZ f a i b k = f b k := by
  unfold fZ
  rw [if_neg (by omega)]
set_option maxHeartbeats 4000000 in
theorem lp_memo {X : Nat × (Nat → Int32)} {fr bc bs : Nat} {L : List (Nat × Nat × Nat)} {f : Nat → Nat → Int32} {g : Nat → Nat → Int64} {Q : Option Value → Mem → Prop} (hr : (80, 6, 86) ∈ L) (k : ∀ M2, Cw 126 L (fZ f 86 2048) g M2 → AW X (RX0, cX0_decide, 6, (some .boolean), false, true, fr) bc bs 31 [(3, .int (nI 2048)), (0, .ref 80), (1, .ref 10), (2, .int 0)] [] M2 Q) : ∀ (j i : Nat) (M : Mem), i + j = 2048 → Cw 126 L (fZ f 86 i) g M → AW X (RX0, cX0_decide, 6, (some .boolean), false, true, fr) bc bs 11 [(3, .int (nI i)), (0, .ref 80), (1, .ref 10), (2, .int 0)] [] M Q := by
  intro j
  induction j with
  | zero =>
    intro i M hi h
    have e : i = 2048 := by omega
    subst e
    refine a_iload_n dX0_decide_11 rfl rfl ?_
    refine a_sipush (v := 2048) dX0_decide_12 (by decide) ?_
    exact a_icmp_ge 31 dX0_decide_15 (by decide) (fun _ => k M h) (fun c => absurd (by decide +kernel) c)
  | succ j ih =>
    intro i M hi h
    refine a_iload_n dX0_decide_11 rfl rfl ?_
    refine a_sipush (v := 2048) dX0_decide_12 (by decide) ?_
    refine a_icmp_ge 31 dX0_decide_15 (by decide) (fun c => absurd c (nI_ge (b := 2048) (by omega) (by decide))) (fun _ => ?_)
    refine a_aload_n dX0_decide_18 rfl rfl ?_
    refine a_get (v := .ref 86) dX0_decide_19 fl_0_28 (cw_l h (by decide)) (cw_s h (by decide) rfl) (cw_g h rfl hr) ?_
    refine a_iload_n dX0_decide_22 rfl rfl ?_
    refine a_iconst (v := 0) dX0_decide_23 (by decide) ?_
    refine a_bastore3 dX0_decide_24 (cw_l h (by decide)) (cw_s h (by decide) rfl) (vp_in_nI (by omega) (by decide)) ?_
    have h2 := cw_I (a := 86) (k := (nI i).toNatClampNeg) (x := (0 &&& 1)) h (by decide)
    rw [nI_clamp (show i < 2 ^ 31 by omega)] at h2 ⊢
    rw [show ((0 : Int32) &&& 1) = 0 from by decide] at h2 ⊢
    rw [fZ_s] at h2
    refine a_iinc (v := nI (i + 1)) dX0_decide_25 rfl (nI_1 i) (Nat.le_of_ble_eq_true rfl) (lv2 := [(3, .int (nI (i + 1))), (0, .ref 80), (1, .ref 10), (2, .int 0)]) rfl ?_
    refine a_goto 11 dX0_decide_28 (by decide) ?_
    exact ih (i + 1) _ (by omega) h2
