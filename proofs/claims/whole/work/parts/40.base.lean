/-! THE PURE LEVEL: methods as functions, over the world's facts -/
theorem gd_true.{u} {α : Sort u} {N A : α} : gd True N A = A := gd_pos trivial
theorem bnd_s.{u} {α : Sort u} {β : Type} {b : β} {N : α} {k : β → α} : bnd (some b) N k = k b := rfl
theorem bnd2_s.{u} {α : Sort u} {β : Type} {b : β} {m : Mem} {N : α} {k : β → Mem → α} : bnd2 (some (b, m)) N k = k b m := rfl
theorem cal_s {β : Type} {n : Nat} {g : Nat → Option β} : cal (n + 1) g = g n := rfl
theorem ex_in {t n : Nat} {P : Nat → Prop} : (∃ k, (Sum.inl (t, n) : (Nat × Nat) ⊕ Nat) = .inl (t, k) ∧ P k) ↔ P n := by
  constructor
  · rintro ⟨k, e, h⟩
    cases e
    exact h
  · intro h
    exact ⟨n, rfl, h⟩
theorem vp_nI {i n : Nat} (h : i < n) (hn : n ≤ 70000) : vp_in (nI i) n := nI_in h (by omega)
theorem vp_iff {i n : Nat} (hi : i < 2147483648) (hn : n ≤ 70000) : vp_in (nI i) n ↔ i < n := by
  constructor
  · intro h
    apply Nat.lt_of_not_le
    intro q
    apply h
    rw [nI_clamp (by omega)]
    exact Or.inr q
  · intro h
    exact vp_nI h hn
theorem nI_z {n : Nat} (h : n < 2147483648) : (nI n).toNatClampNeg = n := nI_clamp (by omega)
theorem nI_lt0 {n : Nat} (h : n < 2147483648) : (nI n < 0) = False := eq_false (nI_pos (by omega))
theorem nI_le_ {a b : Nat} (ha : a < 2147483648) (hb : b < 2147483648) : (nI a ≤ nI b) = (a ≤ b) := propext (nI_leI (by omega) (by omega))
theorem nI_lt_ {a b : Nat} (ha : a < 2147483648) (hb : b < 2147483648) : (nI a < nI b) = (a < b) := propext (nI_ltI (by omega) (by omega))
theorem nI_eq_ {a b : Nat} (ha : a < 2147483648) (hb : b < 2147483648) : (nI a = nI b) = (a = b) := propext (nI_eq (by omega) (by omega))
theorem nI_ne_m1 {a : Nat} (ha : a < 2147483648) : (nI a = -1) = False := eq_false (fun q => by
  have h := congrArg Int32.toInt q
  rw [nI_toInt (by omega)] at h
  have : (-1 : Int32).toInt = -1 := rfl
  omega)
theorem m1_lt0 : ((-1 : Int32) < 0) = True := eq_true (by decide)
theorem up2_if {α : Type} (f : Nat → Nat → α) (a k : Nat) (v : α) (b j : Nat) : up2 f a k v b j = if b = a ∧ j = k then v else f b j := rfl
section WB
variable {M : Mem}
theorem W_0 (h : Wd M) : M.1 = 126 ∧ M.2.2.2.2 0 0 = some 1 ∧ M.2.2.2.2 0 2 = some 2 ∧ M.2.2.2.2 0 3 = some 10 ∧ M.2.2.2.2 0 4 = some 14 ∧ M.2.2.2.2 0 5 = some 24 ∧ M.2.2.2.2 0 6 = some 37 ∧ M.2.2.2.2 0 7 = some 40 ∧ M.2.2.2.2 0 8 = some 53 ∧ M.2.2.2.2 0 9 = some 66 ∧ M.2.2.2.2 0 10 = some 67 ∧ M.2.2.2.2 0 11 = some 74 ∧ M.2.2.2.2 0 12 = some 80 ∧ M.2.2.2.2 0 13 = some 87 ∧ M.2.2.2.2 0 14 = some 88 ∧ M.2.1 0 = .inr 10 ∧ M.2.1 1 = .inl (1, 600) ∧ M.2.1 2 = .inr 1 ∧ M.2.1 10 = .inr 2 ∧ M.2.1 14 = .inr 6 ∧ M.2.1 24 = .inl (4, 4) ∧ M.2.1 37 = .inr 9 ∧ M.2.1 40 = .inr 3 ∧ M.2.1 53 = .inr 7 ∧ M.2.1 66 = .inr 8 ∧ M.2.1 67 = .inr 4 ∧ M.2.1 74 = .inr 5 ∧ M.2.1 80 = .inr 0 ∧ M.2.1 87 = .inl (1, 60) ∧ M.2.1 88 = .inl (1, 60) := ⟨h.1, r_0_0 h, r_0_2 h, r_0_3 h, r_0_4 h, r_0_5 h, r_0_6 h, r_0_7 h, r_0_8 h, r_0_9 h, r_0_10 h, r_0_11 h, r_0_12 h, r_0_13 h, r_0_14 h, s_0 h, s_1 h, s_2 h, s_10 h, s_14 h, s_24 h, s_37 h, s_40 h, s_53 h, s_66 h, s_67 h, s_74 h, s_80 h, s_87 h, s_88 h⟩
theorem W_2 (h : Wd M) : M.1 = 126 ∧ M.2.2.2.2 2 0 = some 3 ∧ M.2.2.2.2 2 1 = some 4 ∧ M.2.2.2.2 2 2 = some 5 ∧ M.2.2.2.2 2 3 = some 6 ∧ M.2.2.2.2 2 4 = some 7 ∧ M.2.2.2.2 2 5 = some 8 ∧ M.2.2.2.2 2 6 = some 9 ∧ M.2.1 2 = .inr 1 ∧ M.2.1 3 = .inl (1, 5200) ∧ M.2.1 4 = .inl (1, 5200) ∧ M.2.1 5 = .inl (1, 5200) ∧ M.2.1 6 = .inl (2, 5200) ∧ M.2.1 7 = .inl (1, 5200) ∧ M.2.1 8 = .inl (1, 5200) ∧ M.2.1 9 = .inl (1, 1024) := ⟨h.1, r_2_0 h, r_2_1 h, r_2_2 h, r_2_3 h, r_2_4 h, r_2_5 h, r_2_6 h, s_2 h, s_3 h, s_4 h, s_5 h, s_6 h, s_7 h, s_8 h, s_9 h⟩
theorem W_10 (h : Wd M) : M.1 = 126 ∧ M.2.2.2.2 10 0 = some 11 ∧ M.2.2.2.2 10 1 = some 12 ∧ M.2.2.2.2 10 2 = some 13 ∧ M.2.1 10 = .inr 2 ∧ M.2.1 11 = .inl (1, 6) ∧ M.2.1 12 = .inl (1, 6) ∧ M.2.1 13 = .inl (1, 6) := ⟨h.1, r_10_0 h, r_10_1 h, r_10_2 h, s_10 h, s_11 h, s_12 h, s_13 h⟩
theorem W_14 (h : Wd M) : M.1 = 126 ∧ M.2.2.2.2 14 0 = some 2 ∧ M.2.2.2.2 14 1 = some 1 ∧ M.2.2.2.2 14 2 = some 15 ∧ M.2.2.2.2 14 3 = some 16 ∧ M.2.2.2.2 14 4 = some 20 ∧ M.2.2.2.2 14 5 = some 21 ∧ M.2.2.2.2 14 7 = some 22 ∧ M.2.2.2.2 14 9 = some 23 ∧ M.2.1 14 = .inr 6 ∧ M.2.1 1 = .inl (1, 600) ∧ M.2.1 2 = .inr 1 ∧ M.2.1 15 = .inl (2, 22) ∧ M.2.1 16 = .inr 2 ∧ M.2.1 20 = .inl (1, 30) ∧ M.2.1 21 = .inl (1, 854) ∧ M.2.1 22 = .inl (1, 24) ∧ M.2.1 23 = .inl (1, 120) := ⟨h.1, r_14_0 h, r_14_1 h, r_14_2 h, r_14_3 h, r_14_4 h, r_14_5 h, r_14_7 h, r_14_9 h, s_14 h, s_1 h, s_2 h, s_15 h, s_16 h, s_20 h, s_21 h, s_22 h, s_23 h⟩
theorem W_16 (h : Wd M) : M.1 = 126 ∧ M.2.2.2.2 16 0 = some 17 ∧ M.2.2.2.2 16 1 = some 18 ∧ M.2.2.2.2 16 2 = some 19 ∧ M.2.1 16 = .inr 2 ∧ M.2.1 17 = .inl (1, 6) ∧ M.2.1 18 = .inl (1, 6) ∧ M.2.1 19 = .inl (1, 6) := ⟨h.1, r_16_0 h, r_16_1 h, r_16_2 h, s_16 h, s_17 h, s_18 h, s_19 h⟩
theorem W_24 (h : Wd M) : M.1 = 126 ∧ M.2.2.2.2 24 0 = some 25 ∧ M.2.2.2.2 24 1 = some 28 ∧ M.2.2.2.2 24 2 = some 31 ∧ M.2.2.2.2 24 3 = some 34 ∧ M.2.1 24 = .inl (4, 4) ∧ M.2.1 25 = .inr 9 ∧ M.2.1 28 = .inr 9 ∧ M.2.1 31 = .inr 9 ∧ M.2.1 34 = .inr 9 := ⟨h.1, r_24_0 h, r_24_1 h, r_24_2 h, r_24_3 h, s_24 h, s_25 h, s_28 h, s_31 h, s_34 h⟩
theorem W_25 (h : Wd M) : M.1 = 126 ∧ M.2.2.2.2 25 0 = some 26 ∧ M.2.2.2.2 25 1 = some 27 ∧ M.2.1 25 = .inr 9 ∧ M.2.1 26 = .inl (1, 200) ∧ M.2.1 27 = .inl (1, 200) := ⟨h.1, r_25_0 h, r_25_1 h, s_25 h, s_26 h, s_27 h⟩
theorem W_28 (h : Wd M) : M.1 = 126 ∧ M.2.2.2.2 28 0 = some 29 ∧ M.2.2.2.2 28 1 = some 30 ∧ M.2.1 28 = .inr 9 ∧ M.2.1 29 = .inl (1, 200) ∧ M.2.1 30 = .inl (1, 200) := ⟨h.1, r_28_0 h, r_28_1 h, s_28 h, s_29 h, s_30 h⟩
theorem W_31 (h : Wd M) : M.1 = 126 ∧ M.2.2.2.2 31 0 = some 32 ∧ M.2.2.2.2 31 1 = some 33 ∧ M.2.1 31 = .inr 9 ∧ M.2.1 32 = .inl (1, 200) ∧ M.2.1 33 = .inl (1, 200) := ⟨h.1, r_31_0 h, r_31_1 h, s_31 h, s_32 h, s_33 h⟩
theorem W_34 (h : Wd M) : M.1 = 126 ∧ M.2.2.2.2 34 0 = some 35 ∧ M.2.2.2.2 34 1 = some 36 ∧ M.2.1 34 = .inr 9 ∧ M.2.1 35 = .inl (1, 200) ∧ M.2.1 36 = .inl (1, 200) := ⟨h.1, r_34_0 h, r_34_1 h, s_34 h, s_35 h, s_36 h⟩
theorem W_37 (h : Wd M) : M.1 = 126 ∧ M.2.2.2.2 37 0 = some 38 ∧ M.2.2.2.2 37 1 = some 39 ∧ M.2.1 37 = .inr 9 ∧ M.2.1 38 = .inl (1, 200) ∧ M.2.1 39 = .inl (1, 200) := ⟨h.1, r_37_0 h, r_37_1 h, s_37 h, s_38 h, s_39 h⟩
theorem W_40 (h : Wd M) : M.1 = 126 ∧ M.2.2.2.2 40 0 = some 2 ∧ M.2.2.2.2 40 1 = some 10 ∧ M.2.2.2.2 40 3 = some 41 ∧ M.2.2.2.2 40 4 = some 42 ∧ M.2.2.2.2 40 5 = some 43 ∧ M.2.2.2.2 40 6 = some 44 ∧ M.2.2.2.2 40 7 = some 45 ∧ M.2.2.2.2 40 8 = some 46 ∧ M.2.2.2.2 40 9 = some 47 ∧ M.2.2.2.2 40 10 = some 48 ∧ M.2.2.2.2 40 11 = some 49 ∧ M.2.1 40 = .inr 3 ∧ M.2.1 2 = .inr 1 ∧ M.2.1 10 = .inr 2 ∧ M.2.1 41 = .inl (1, 200) ∧ M.2.1 42 = .inl (1, 200) ∧ M.2.1 43 = .inl (1, 200) ∧ M.2.1 44 = .inl (1, 200) ∧ M.2.1 45 = .inl (1, 200) ∧ M.2.1 46 = .inl (1, 200) ∧ M.2.1 47 = .inl (1, 200) ∧ M.2.1 48 = .inl (1, 200) ∧ M.2.1 49 = .inl (1, 400) := ⟨h.1, r_40_0 h, r_40_1 h, r_40_3 h, r_40_4 h, r_40_5 h, r_40_6 h, r_40_7 h, r_40_8 h, r_40_9 h, r_40_10 h, r_40_11 h, s_40 h, s_2 h, s_10 h, s_41 h, s_42 h, s_43 h, s_44 h, s_45 h, s_46 h, s_47 h, s_48 h, s_49 h⟩
theorem W_50 (h : Wd M) : M.1 = 126 ∧ M.2.2.2.2 50 0 = some 51 ∧ M.2.2.2.2 50 1 = some 52 ∧ M.2.1 50 = .inr 9 ∧ M.2.1 51 = .inl (1, 200) ∧ M.2.1 52 = .inl (1, 200) := ⟨h.1, r_50_0 h, r_50_1 h, s_50 h, s_51 h, s_52 h⟩
theorem W_53 (h : Wd M) : M.1 = 126 ∧ M.2.2.2.2 53 0 = some 40 ∧ M.2.1 53 = .inr 7 ∧ M.2.1 40 = .inr 3 := ⟨h.1, r_53_0 h, s_53 h, s_40 h⟩
theorem W_54 (h : Wd M) : M.1 = 126 ∧ M.2.2.2.2 54 0 = some 55 ∧ M.2.2.2.2 54 1 = some 56 ∧ M.2.1 54 = .inr 9 ∧ M.2.1 55 = .inl (1, 200) ∧ M.2.1 56 = .inl (1, 200) := ⟨h.1, r_54_0 h, r_54_1 h, s_54 h, s_55 h, s_56 h⟩
theorem W_57 (h : Wd M) : M.1 = 126 ∧ M.2.2.2.2 57 0 = some 58 ∧ M.2.2.2.2 57 1 = some 59 ∧ M.2.1 57 = .inr 9 ∧ M.2.1 58 = .inl (1, 200) ∧ M.2.1 59 = .inl (1, 200) := ⟨h.1, r_57_0 h, r_57_1 h, s_57 h, s_58 h, s_59 h⟩
theorem W_60 (h : Wd M) : M.1 = 126 ∧ M.2.2.2.2 60 0 = some 61 ∧ M.2.2.2.2 60 1 = some 62 ∧ M.2.1 60 = .inr 9 ∧ M.2.1 61 = .inl (1, 200) ∧ M.2.1 62 = .inl (1, 200) := ⟨h.1, r_60_0 h, r_60_1 h, s_60 h, s_61 h, s_62 h⟩
theorem W_63 (h : Wd M) : M.1 = 126 ∧ M.2.2.2.2 63 0 = some 64 ∧ M.2.2.2.2 63 1 = some 65 ∧ M.2.1 63 = .inr 9 ∧ M.2.1 64 = .inl (1, 200) ∧ M.2.1 65 = .inl (1, 200) := ⟨h.1, r_63_0 h, r_63_1 h, s_63 h, s_64 h, s_65 h⟩
theorem W_66 (h : Wd M) : M.1 = 126 ∧ M.2.2.2.2 66 0 = some 2 ∧ M.2.2.2.2 66 1 = some 10 ∧ M.2.1 66 = .inr 8 ∧ M.2.1 2 = .inr 1 ∧ M.2.1 10 = .inr 2 := ⟨h.1, r_66_0 h, r_66_1 h, s_66 h, s_2 h, s_10 h⟩
theorem W_67 (h : Wd M) : M.1 = 126 ∧ M.2.2.2.2 67 0 = some 10 ∧ M.2.2.2.2 67 1 = some 68 ∧ M.2.2.2.2 67 2 = some 69 ∧ M.2.2.2.2 67 3 = some 70 ∧ M.2.2.2.2 67 4 = some 71 ∧ M.2.2.2.2 67 5 = some 72 ∧ M.2.2.2.2 67 6 = some 73 ∧ M.2.1 67 = .inr 4 ∧ M.2.1 10 = .inr 2 ∧ M.2.1 68 = .inl (1, 406) ∧ M.2.1 69 = .inl (1, 406) ∧ M.2.1 70 = .inl (1, 406) ∧ M.2.1 71 = .inl (1, 1218) ∧ M.2.1 72 = .inl (1, 200) ∧ M.2.1 73 = .inl (1, 200) := ⟨h.1, r_67_0 h, r_67_1 h, r_67_2 h, r_67_3 h, r_67_4 h, r_67_5 h, r_67_6 h, s_67 h, s_10 h, s_68 h, s_69 h, s_70 h, s_71 h, s_72 h, s_73 h⟩
theorem W_74 (h : Wd M) : M.1 = 126 ∧ M.2.2.2.2 74 0 = some 2 ∧ M.2.2.2.2 74 1 = some 75 ∧ M.2.2.2.2 74 2 = some 76 ∧ M.2.2.2.2 74 3 = some 77 ∧ M.2.2.2.2 74 4 = some 78 ∧ M.2.2.2.2 74 5 = some 79 ∧ M.2.1 74 = .inr 5 ∧ M.2.1 2 = .inr 1 ∧ M.2.1 75 = .inl (1, 5200) ∧ M.2.1 76 = .inl (1, 420) ∧ M.2.1 77 = .inl (1, 420) ∧ M.2.1 78 = .inl (1, 420) ∧ M.2.1 79 = .inl (2, 420) := ⟨h.1, r_74_0 h, r_74_1 h, r_74_2 h, r_74_3 h, r_74_4 h, r_74_5 h, s_74 h, s_2 h, s_75 h, s_76 h, s_77 h, s_78 h, s_79 h⟩
theorem W_80 (h : Wd M) : M.1 = 126 ∧ M.2.2.2.2 80 0 = some 74 ∧ M.2.2.2.2 80 1 = some 81 ∧ M.2.2.2.2 80 2 = some 82 ∧ M.2.2.2.2 80 3 = some 83 ∧ M.2.2.2.2 80 4 = some 84 ∧ M.2.2.2.2 80 5 = some 85 ∧ M.2.1 80 = .inr 0 ∧ M.2.1 74 = .inr 5 ∧ M.2.1 81 = .inl (1, 40) ∧ M.2.1 82 = .inl (2, 40) ∧ M.2.1 83 = .inl (2, 40) ∧ M.2.1 84 = .inl (2, 8192) ∧ M.2.1 85 = .inl (2, 8192) := ⟨h.1, r_80_0 h, r_80_1 h, r_80_2 h, r_80_3 h, r_80_4 h, r_80_5 h, s_80 h, s_74 h, s_81 h, s_82 h, s_83 h, s_84 h, s_85 h⟩
theorem W_89 (h : Wd M) : M.1 = 126 ∧ M.2.2.2.2 89 1 = some 90 ∧ M.2.2.2.2 89 2 = some 91 ∧ M.2.2.2.2 89 3 = some 92 ∧ M.2.2.2.2 89 4 = some 93 ∧ M.2.2.2.2 89 5 = some 94 ∧ M.2.2.2.2 89 6 = some 95 ∧ M.2.2.2.2 89 9 = some 96 ∧ M.2.2.2.2 89 10 = some 97 ∧ M.2.2.2.2 89 11 = some 98 ∧ M.2.2.2.2 89 12 = some 99 ∧ M.2.2.2.2 89 13 = some 100 ∧ M.2.2.2.2 89 14 = some 101 ∧ M.2.2.2.2 89 17 = some 102 ∧ M.2.2.2.2 89 18 = some 103 ∧ M.2.2.2.2 89 19 = some 104 ∧ M.2.2.2.2 89 20 = some 105 ∧ M.2.2.2.2 89 21 = some 106 ∧ M.2.2.2.2 89 22 = some 107 ∧ M.2.2.2.2 89 23 = some 108 ∧ M.2.2.2.2 89 26 = some 109 ∧ M.2.2.2.2 89 36 = some 110 ∧ M.2.2.2.2 89 37 = some 111 ∧ M.2.2.2.2 89 38 = some 112 ∧ M.2.2.2.2 89 40 = some 113 ∧ M.2.2.2.2 89 41 = some 114 ∧ M.2.2.2.2 89 42 = some 115 ∧ M.2.2.2.2 89 44 = some 116 ∧ M.2.2.2.2 89 45 = some 117 ∧ M.2.2.2.2 89 51 = some 118 ∧ M.2.2.2.2 89 52 = some 119 ∧ M.2.2.2.2 89 53 = some 120 ∧ M.2.2.2.2 89 54 = some 121 ∧ M.2.2.2.2 89 55 = some 122 ∧ M.2.2.2.2 89 57 = some 123 ∧ M.2.2.2.2 89 58 = some 124 ∧ M.2.2.2.2 89 60 = some 125 ∧ M.2.1 89 = .inr 11 ∧ M.2.1 90 = .inl (1, 16384) ∧ M.2.1 91 = .inl (1, 16384) ∧ M.2.1 92 = .inl (1, 16384) ∧ M.2.1 93 = .inl (1, 16384) ∧ M.2.1 94 = .inl (1, 1024) ∧ M.2.1 95 = .inl (1, 16384) ∧ M.2.1 96 = .inl (1, 24) ∧ M.2.1 97 = .inl (1, 6) ∧ M.2.1 98 = .inl (1, 6) ∧ M.2.1 99 = .inl (1, 24) ∧ M.2.1 100 = .inl (1, 6) ∧ M.2.1 101 = .inl (1, 6) ∧ M.2.1 102 = .inl (1, 800) ∧ M.2.1 103 = .inl (1, 800) ∧ M.2.1 104 = .inl (1, 4) ∧ M.2.1 105 = .inl (1, 400) ∧ M.2.1 106 = .inl (1, 400) ∧ M.2.1 107 = .inl (1, 400) ∧ M.2.1 108 = .inl (1, 400) ∧ M.2.1 109 = .inl (0, 600) ∧ M.2.1 110 = .inl (1, 400) ∧ M.2.1 111 = .inl (1, 96) ∧ M.2.1 112 = .inl (1, 24) ∧ M.2.1 113 = .inl (1, 400) ∧ M.2.1 114 = .inl (1, 400) ∧ M.2.1 115 = .inl (1, 400) ∧ M.2.1 116 = .inl (1, 60) ∧ M.2.1 117 = .inl (1, 60) ∧ M.2.1 118 = .inl (1, 620) ∧ M.2.1 119 = .inl (1, 620) ∧ M.2.1 120 = .inl (1, 1860) ∧ M.2.1 121 = .inl (1, 620) ∧ M.2.1 122 = .inl (1, 400) ∧ M.2.1 123 = .inl (1, 200) ∧ M.2.1 124 = .inl (1, 200) ∧ M.2.1 125 = .inl (1, 60000) := ⟨h.1, r_89_1 h, r_89_2 h, r_89_3 h, r_89_4 h, r_89_5 h, r_89_6 h, r_89_9 h, r_89_10 h, r_89_11 h, r_89_12 h, r_89_13 h, r_89_14 h, r_89_17 h, r_89_18 h, r_89_19 h, r_89_20 h, r_89_21 h, r_89_22 h, r_89_23 h, r_89_26 h, r_89_36 h, r_89_37 h, r_89_38 h, r_89_40 h, r_89_41 h, r_89_42 h, r_89_44 h, r_89_45 h, r_89_51 h, r_89_52 h, r_89_53 h, r_89_54 h, r_89_55 h, r_89_57 h, r_89_58 h, r_89_60 h, s_89 h, s_90 h, s_91 h, s_92 h, s_93 h, s_94 h, s_95 h, s_96 h, s_97 h, s_98 h, s_99 h, s_100 h, s_101 h, s_102 h, s_103 h, s_104 h, s_105 h, s_106 h, s_107 h, s_108 h, s_109 h, s_110 h, s_111 h, s_112 h, s_113 h, s_114 h, s_115 h, s_116 h, s_117 h, s_118 h, s_119 h, s_120 h, s_121 h, s_122 h, s_123 h, s_124 h, s_125 h⟩
end WB
theorem Wd.wI {M : Mem} (h : Wd M) (a k : Nat) (x : Int32) : Wd (wI M a k x) := ⟨h.1, h.2.1, h.2.2⟩
theorem Wd.wJ {M : Mem} (h : Wd M) (a k : Nat) (x : Int64) : Wd (wJ M a k x) := ⟨h.1, h.2.1, h.2.2⟩
theorem Wd.cp {M : Mem} (h : Wd M) (sa : Nat) (sp : Int32) (da : Nat) (dp z : Int32) : Wd (cpM M sa sp da dp z) := ⟨h.1, h.2.1, h.2.2⟩
/-- all is as it was, but for the places of a set -/
def Fr (S : Nat → Nat → Prop) (M M1 : Mem) : Prop := M1.1 = M.1 ∧ M1.2.1 = M.2.1 ∧ M1.2.2.2.2 = M.2.2.2.2 ∧ ∀ a k, ¬ S a k → M1.2.2.1 a k = M.2.2.1 a k ∧ M1.2.2.2.1 a k = M.2.2.2.1 a k
section FR
variable {S T : Nat → Nat → Prop} {M M1 M2 : Mem}
theorem Fr.refl : Fr S M M := ⟨rfl, rfl, rfl, fun _ _ _ => ⟨rfl, rfl⟩⟩
theorem Fr.trans (h : Fr S M M1) (k : Fr S M1 M2) : Fr S M M2 := ⟨k.1.trans h.1, k.2.1.trans h.2.1, k.2.2.1.trans h.2.2.1, fun a i ha => ⟨(k.2.2.2 a i ha).1.trans (h.2.2.2 a i ha).1, (k.2.2.2 a i ha).2.trans (h.2.2.2 a i ha).2⟩⟩
theorem Fr.mono (h : Fr S M M1) (hs : ∀ a k, S a k → T a k) : Fr T M M1 := ⟨h.1, h.2.1, h.2.2.1, fun a k ha => h.2.2.2 a k (fun q => ha (hs a k q))⟩
theorem Fr.wI (h : Fr S M M1) {a k : Nat} (ha : S a k) (x : Int32) : Fr S M (wI M1 a k x) := ⟨h.1, h.2.1, h.2.2.1, fun b j hb => ⟨by
  have hn : ¬ (b = a ∧ j = k) := fun q => hb (by rw [q.1, q.2]; exact ha)
  rw [← (h.2.2.2 b j hb).1]
  exact if_neg hn, (h.2.2.2 b j hb).2⟩⟩
theorem Fr.wJ (h : Fr S M M1) {a k : Nat} (ha : S a k) (x : Int64) : Fr S M (wJ M1 a k x) := ⟨h.1, h.2.1, h.2.2.1, fun b j hb => ⟨(h.2.2.2 b j hb).1, by
  have hn : ¬ (b = a ∧ j = k) := fun q => hb (by rw [q.1, q.2]; exact ha)
  rw [← (h.2.2.2 b j hb).2]
  exact if_neg hn⟩⟩
theorem Fr.Wd (h : Fr S M M1) (hW : Wd M) : Wd M1 := ⟨h.1.trans hW.1, fun a ha => by rw [h.2.1]; exact hW.2.1 a ha, fun q hq => by rw [h.2.2.1]; exact hW.2.2 q hq⟩
theorem Fr.int (h : Fr S M M1) {a k : Nat} (ha : ¬ S a k) : M1.2.2.1 a k = M.2.2.1 a k := (h.2.2.2 a k ha).1
theorem Fr.lng (h : Fr S M M1) {a k : Nat} (ha : ¬ S a k) : M1.2.2.2.1 a k = M.2.2.2.1 a k := (h.2.2.2 a k ha).2
theorem Fr.ints (h : Fr S M M1) {a : Nat} (ha : ∀ k, ¬ S a k) : M1.2.2.1 a = M.2.2.1 a := funext fun k => h.int (ha k)
theorem Fr.lngs (h : Fr S M M1) {a : Nat} (ha : ∀ k, ¬ S a k) : M1.2.2.2.1 a = M.2.2.2.1 a := funext fun k => h.lng (ha k)
end FR

