/-! THE CONSTRUCTORS, where their cells come to lie -/
def fH (f : Nat → Nat → Int32) (a i : Nat) : Nat → Nat → Int32 := fun b k => if b = a ∧ k < i then -1 else f b k
theorem fH0 {f : Nat → Nat → Int32} {a : Nat} : fH f a 0 = f := by
  funext b k
  unfold fH
  rw [if_neg (by omega)]
theorem fH_s {f : Nat → Nat → Int32} {a i : Nat} : up2 (fH f a i) a i (-1) = fH f a (i + 1) := by
  funext b k
  unfold up2 fH
  by_cases h1 : b = a ∧ k = i
  · rw [if_pos h1, if_pos ⟨h1.1, by omega⟩]
  · rw [if_neg h1]
    by_cases h2 : b = a ∧ k < i
    · rw [if_pos h2, if_pos ⟨h2.1, by omega⟩]
    · rw [if_neg h2, if_neg (by omega)]
def Lj0 : List (Nat × Nat × Nat) := []
def fs0 : Nat → Nat → Int32 := fun _ _ => 0
def gs0 : Nat → Nat → Int64 := fun _ _ => 0
def Lj1 : List (Nat × Nat × Nat) := (0, 0, 1) :: Lj0
def Lj2 : List (Nat × Nat × Nat) := (2, 0, 3) :: Lj1
def Lj3 : List (Nat × Nat × Nat) := (2, 1, 4) :: Lj2
def Lj4 : List (Nat × Nat × Nat) := (2, 2, 5) :: Lj3
def Lj5 : List (Nat × Nat × Nat) := (2, 3, 6) :: Lj4
def Lj6 : List (Nat × Nat × Nat) := (2, 4, 7) :: Lj5
def Lj7 : List (Nat × Nat × Nat) := (2, 5, 8) :: Lj6
def Lj8 : List (Nat × Nat × Nat) := (2, 6, 9) :: Lj7
def fs1 : Nat → Nat → Int32 := fH fs0 9 1024
def fs2 : Nat → Nat → Int32 := up2 fs1 3 0 0
def fs3 : Nat → Nat → Int32 := up2 fs2 4 0 (-1)
def fs4 : Nat → Nat → Int32 := up2 fs3 5 0 (-1)
def gs1 : Nat → Nat → Int64 := up2 gs0 6 0 1
def fs5 : Nat → Nat → Int32 := up2 fs4 3 1 1
def fs6 : Nat → Nat → Int32 := up2 fs5 4 1 (-1)
def fs7 : Nat → Nat → Int32 := up2 fs6 5 1 (-1)
def gs2 : Nat → Nat → Int64 := up2 gs1 6 1 1
def fs8 : Nat → Nat → Int32 := up2 fs7 3 2 2
def fs9 : Nat → Nat → Int32 := up2 fs8 4 2 (-1)
def fs10 : Nat → Nat → Int32 := up2 fs9 5 2 (-1)
def gs3 : Nat → Nat → Int64 := up2 gs2 6 2 1
def fs11 : Nat → Nat → Int32 := up2 fs10 3 3 3
def fs12 : Nat → Nat → Int32 := up2 fs11 4 3 (-1)
def fs13 : Nat → Nat → Int32 := up2 fs12 5 3 (-1)
def gs4 : Nat → Nat → Int64 := up2 gs3 6 3 1
def fs14 : Nat → Nat → Int32 := up2 fs13 3 4 4
def fs15 : Nat → Nat → Int32 := up2 fs14 4 4 (-1)
def fs16 : Nat → Nat → Int32 := up2 fs15 5 4 (-1)
def gs5 : Nat → Nat → Int64 := up2 gs4 6 4 1
def fs17 : Nat → Nat → Int32 := up2 fs16 3 5 5
def fs18 : Nat → Nat → Int32 := up2 fs17 4 5 (-1)
def fs19 : Nat → Nat → Int32 := up2 fs18 5 5 (-1)
def gs6 : Nat → Nat → Int64 := up2 gs5 6 5 1
def fs20 : Nat → Nat → Int32 := up2 fs19 3 6 6
def fs21 : Nat → Nat → Int32 := up2 fs20 4 6 (-1)
def fs22 : Nat → Nat → Int32 := up2 fs21 5 6 (-1)
def gs7 : Nat → Nat → Int64 := up2 gs6 6 6 1
def fs23 : Nat → Nat → Int32 := up2 fs22 3 7 7
def fs24 : Nat → Nat → Int32 := up2 fs23 4 7 (-1)
def fs25 : Nat → Nat → Int32 := up2 fs24 5 7 (-1)
def gs8 : Nat → Nat → Int64 := up2 gs7 6 7 1
def fs26 : Nat → Nat → Int32 := up2 fs25 3 8 8
def fs27 : Nat → Nat → Int32 := up2 fs26 4 8 (-1)
def fs28 : Nat → Nat → Int32 := up2 fs27 5 8 (-1)
def gs9 : Nat → Nat → Int64 := up2 gs8 6 8 2
def fs29 : Nat → Nat → Int32 := up2 fs28 2 7 9
def Lj9 : List (Nat × Nat × Nat) := (0, 2, 2) :: Lj8
def Lj10 : List (Nat × Nat × Nat) := (10, 0, 11) :: Lj9
def Lj11 : List (Nat × Nat × Nat) := (10, 1, 12) :: Lj10
def Lj12 : List (Nat × Nat × Nat) := (10, 2, 13) :: Lj11
def Lj13 : List (Nat × Nat × Nat) := (0, 3, 10) :: Lj12
def Lj14 : List (Nat × Nat × Nat) := (14, 2, 15) :: Lj13
def Lj15 : List (Nat × Nat × Nat) := (16, 0, 17) :: Lj14
def Lj16 : List (Nat × Nat × Nat) := (16, 1, 18) :: Lj15
def Lj17 : List (Nat × Nat × Nat) := (16, 2, 19) :: Lj16
def Lj18 : List (Nat × Nat × Nat) := (14, 3, 16) :: Lj17
def Lj19 : List (Nat × Nat × Nat) := (14, 4, 20) :: Lj18
def Lj20 : List (Nat × Nat × Nat) := (14, 5, 21) :: Lj19
def Lj21 : List (Nat × Nat × Nat) := (14, 7, 22) :: Lj20
def Lj22 : List (Nat × Nat × Nat) := (14, 9, 23) :: Lj21
def fs30 : Nat → Nat → Int32 := up2 fs29 14 18 (-1)
def Lj23 : List (Nat × Nat × Nat) := (14, 0, 2) :: Lj22
def Lj24 : List (Nat × Nat × Nat) := (14, 1, 1) :: Lj23
def gs10 : Nat → Nat → Int64 := up2 gs9 15 0 112
def gs11 : Nat → Nat → Int64 := up2 gs10 15 1 113
def gs12 : Nat → Nat → Int64 := up2 gs11 15 2 114
def gs13 : Nat → Nat → Int64 := up2 gs12 15 3 115
def gs14 : Nat → Nat → Int64 := up2 gs13 15 4 116
def gs15 : Nat → Nat → Int64 := up2 gs14 15 5 117
def gs16 : Nat → Nat → Int64 := up2 gs15 15 6 118
def gs17 : Nat → Nat → Int64 := up2 gs16 15 7 119
def gs18 : Nat → Nat → Int64 := up2 gs17 15 8 28271
def gs19 : Nat → Nat → Int64 := up2 gs18 15 9 6909296
def gs20 : Nat → Nat → Int64 := up2 gs19 15 10 6385252
def gs21 : Nat → Nat → Int64 := up2 gs20 15 11 28530
def gs22 : Nat → Nat → Int64 := up2 gs21 15 12 7237492
def gs23 : Nat → Nat → Int64 := up2 gs22 15 13 6714734
def gs24 : Nat → Nat → Int64 := up2 gs23 15 14 6385776
def gs25 : Nat → Nat → Int64 := up2 gs24 15 15 1885432178
def gs26 : Nat → Nat → Int64 := up2 gs25 15 16 6714228
def gs27 : Nat → Nat → Int64 := up2 gs26 15 17 7564900
def gs28 : Nat → Nat → Int64 := up2 gs27 15 18 6909548
def gs29 : Nat → Nat → Int64 := up2 gs28 15 19 6909554
def gs30 : Nat → Nat → Int64 := up2 gs29 15 20 1667330917
def gs31 : Nat → Nat → Int64 := up2 gs30 15 21 418263298676
def Lj25 : List (Nat × Nat × Nat) := (0, 4, 14) :: Lj24
def Lj26 : List (Nat × Nat × Nat) := (0, 5, 24) :: Lj25
def Lj27 : List (Nat × Nat × Nat) := (25, 0, 26) :: Lj26
def Lj28 : List (Nat × Nat × Nat) := (25, 1, 27) :: Lj27
def Lj29 : List (Nat × Nat × Nat) := (24, 0, 25) :: Lj28
def Lj30 : List (Nat × Nat × Nat) := (28, 0, 29) :: Lj29
def Lj31 : List (Nat × Nat × Nat) := (28, 1, 30) :: Lj30
def Lj32 : List (Nat × Nat × Nat) := (24, 1, 28) :: Lj31
def Lj33 : List (Nat × Nat × Nat) := (31, 0, 32) :: Lj32
def Lj34 : List (Nat × Nat × Nat) := (31, 1, 33) :: Lj33
def Lj35 : List (Nat × Nat × Nat) := (24, 2, 31) :: Lj34
def Lj36 : List (Nat × Nat × Nat) := (34, 0, 35) :: Lj35
def Lj37 : List (Nat × Nat × Nat) := (34, 1, 36) :: Lj36
def Lj38 : List (Nat × Nat × Nat) := (24, 3, 34) :: Lj37
def Lj39 : List (Nat × Nat × Nat) := (37, 0, 38) :: Lj38
def Lj40 : List (Nat × Nat × Nat) := (37, 1, 39) :: Lj39
def Lj41 : List (Nat × Nat × Nat) := (0, 6, 37) :: Lj40
def Lj42 : List (Nat × Nat × Nat) := (40, 3, 41) :: Lj41
def Lj43 : List (Nat × Nat × Nat) := (40, 4, 42) :: Lj42
def Lj44 : List (Nat × Nat × Nat) := (40, 5, 43) :: Lj43
def Lj45 : List (Nat × Nat × Nat) := (40, 6, 44) :: Lj44
def Lj46 : List (Nat × Nat × Nat) := (40, 7, 45) :: Lj45
def Lj47 : List (Nat × Nat × Nat) := (40, 8, 46) :: Lj46
def Lj48 : List (Nat × Nat × Nat) := (40, 9, 47) :: Lj47
def Lj49 : List (Nat × Nat × Nat) := (40, 10, 48) :: Lj48
def Lj50 : List (Nat × Nat × Nat) := (40, 11, 49) :: Lj49
def Lj51 : List (Nat × Nat × Nat) := (40, 0, 2) :: Lj50
def Lj52 : List (Nat × Nat × Nat) := (40, 1, 10) :: Lj51
def Lj53 : List (Nat × Nat × Nat) := (50, 0, 51) :: Lj52
def Lj54 : List (Nat × Nat × Nat) := (50, 1, 52) :: Lj53
def Lj55 : List (Nat × Nat × Nat) := (40, 2, 50) :: Lj54
def Lj56 : List (Nat × Nat × Nat) := (0, 7, 40) :: Lj55
def Lj57 : List (Nat × Nat × Nat) := (54, 0, 55) :: Lj56
def Lj58 : List (Nat × Nat × Nat) := (54, 1, 56) :: Lj57
def Lj59 : List (Nat × Nat × Nat) := (53, 1, 54) :: Lj58
def Lj60 : List (Nat × Nat × Nat) := (57, 0, 58) :: Lj59
def Lj61 : List (Nat × Nat × Nat) := (57, 1, 59) :: Lj60
def Lj62 : List (Nat × Nat × Nat) := (53, 2, 57) :: Lj61
def Lj63 : List (Nat × Nat × Nat) := (60, 0, 61) :: Lj62
def Lj64 : List (Nat × Nat × Nat) := (60, 1, 62) :: Lj63
def Lj65 : List (Nat × Nat × Nat) := (53, 3, 60) :: Lj64
def Lj66 : List (Nat × Nat × Nat) := (63, 0, 64) :: Lj65
def Lj67 : List (Nat × Nat × Nat) := (63, 1, 65) :: Lj66
def Lj68 : List (Nat × Nat × Nat) := (53, 4, 63) :: Lj67
def Lj69 : List (Nat × Nat × Nat) := (53, 0, 40) :: Lj68
def Lj70 : List (Nat × Nat × Nat) := (0, 8, 53) :: Lj69
def Lj71 : List (Nat × Nat × Nat) := (66, 0, 2) :: Lj70
def Lj72 : List (Nat × Nat × Nat) := (66, 1, 10) :: Lj71
def Lj73 : List (Nat × Nat × Nat) := (0, 9, 66) :: Lj72
def Lj74 : List (Nat × Nat × Nat) := (67, 1, 68) :: Lj73
def Lj75 : List (Nat × Nat × Nat) := (67, 2, 69) :: Lj74
def Lj76 : List (Nat × Nat × Nat) := (67, 3, 70) :: Lj75
def Lj77 : List (Nat × Nat × Nat) := (67, 4, 71) :: Lj76
def Lj78 : List (Nat × Nat × Nat) := (67, 5, 72) :: Lj77
def Lj79 : List (Nat × Nat × Nat) := (67, 6, 73) :: Lj78
def Lj80 : List (Nat × Nat × Nat) := (67, 0, 10) :: Lj79
def Lj81 : List (Nat × Nat × Nat) := (0, 10, 67) :: Lj80
def Lj82 : List (Nat × Nat × Nat) := (74, 1, 75) :: Lj81
def Lj83 : List (Nat × Nat × Nat) := (74, 2, 76) :: Lj82
def Lj84 : List (Nat × Nat × Nat) := (74, 3, 77) :: Lj83
def Lj85 : List (Nat × Nat × Nat) := (74, 4, 78) :: Lj84
def Lj86 : List (Nat × Nat × Nat) := (74, 5, 79) :: Lj85
def Lj87 : List (Nat × Nat × Nat) := (74, 0, 2) :: Lj86
def Lj88 : List (Nat × Nat × Nat) := (0, 11, 74) :: Lj87
def Lj89 : List (Nat × Nat × Nat) := (80, 1, 81) :: Lj88
def Lj90 : List (Nat × Nat × Nat) := (80, 2, 82) :: Lj89
def Lj91 : List (Nat × Nat × Nat) := (80, 3, 83) :: Lj90
def Lj92 : List (Nat × Nat × Nat) := (80, 4, 84) :: Lj91
def Lj93 : List (Nat × Nat × Nat) := (80, 5, 85) :: Lj92
def Lj94 : List (Nat × Nat × Nat) := (80, 0, 74) :: Lj93
def Lj95 : List (Nat × Nat × Nat) := (0, 12, 80) :: Lj94
def Lj96 : List (Nat × Nat × Nat) := (0, 13, 87) :: Lj95
def Lj97 : List (Nat × Nat × Nat) := (0, 14, 88) :: Lj96
def fs31 : Nat → Nat → Int32 := up2 fs30 0 16 0
def fs32 : Nat → Nat → Int32 := up2 fs31 0 17 1
def Lj98 : List (Nat × Nat × Nat) := (89, 1, 90) :: Lj97
def Lj99 : List (Nat × Nat × Nat) := (89, 2, 91) :: Lj98
def Lj100 : List (Nat × Nat × Nat) := (89, 3, 92) :: Lj99
def Lj101 : List (Nat × Nat × Nat) := (89, 4, 93) :: Lj100
def Lj102 : List (Nat × Nat × Nat) := (89, 5, 94) :: Lj101
def Lj103 : List (Nat × Nat × Nat) := (89, 6, 95) :: Lj102
def Lj104 : List (Nat × Nat × Nat) := (89, 9, 96) :: Lj103
def Lj105 : List (Nat × Nat × Nat) := (89, 10, 97) :: Lj104
def Lj106 : List (Nat × Nat × Nat) := (89, 11, 98) :: Lj105
def Lj107 : List (Nat × Nat × Nat) := (89, 12, 99) :: Lj106
def Lj108 : List (Nat × Nat × Nat) := (89, 13, 100) :: Lj107
def Lj109 : List (Nat × Nat × Nat) := (89, 14, 101) :: Lj108
def Lj110 : List (Nat × Nat × Nat) := (89, 17, 102) :: Lj109
def Lj111 : List (Nat × Nat × Nat) := (89, 18, 103) :: Lj110
def Lj112 : List (Nat × Nat × Nat) := (89, 19, 104) :: Lj111
def Lj113 : List (Nat × Nat × Nat) := (89, 20, 105) :: Lj112
def Lj114 : List (Nat × Nat × Nat) := (89, 21, 106) :: Lj113
def Lj115 : List (Nat × Nat × Nat) := (89, 22, 107) :: Lj114
def Lj116 : List (Nat × Nat × Nat) := (89, 23, 108) :: Lj115
def Lj117 : List (Nat × Nat × Nat) := (89, 26, 109) :: Lj116
def fs33 : Nat → Nat → Int32 := up2 fs32 89 33 (-1)
def Lj118 : List (Nat × Nat × Nat) := (89, 36, 110) :: Lj117
def Lj119 : List (Nat × Nat × Nat) := (89, 37, 111) :: Lj118
def Lj120 : List (Nat × Nat × Nat) := (89, 38, 112) :: Lj119
def Lj121 : List (Nat × Nat × Nat) := (89, 40, 113) :: Lj120
def Lj122 : List (Nat × Nat × Nat) := (89, 41, 114) :: Lj121
def Lj123 : List (Nat × Nat × Nat) := (89, 42, 115) :: Lj122
def Lj124 : List (Nat × Nat × Nat) := (89, 44, 116) :: Lj123
def Lj125 : List (Nat × Nat × Nat) := (89, 45, 117) :: Lj124
def Lj126 : List (Nat × Nat × Nat) := (89, 51, 118) :: Lj125
def Lj127 : List (Nat × Nat × Nat) := (89, 52, 119) :: Lj126
def Lj128 : List (Nat × Nat × Nat) := (89, 53, 120) :: Lj127
def Lj129 : List (Nat × Nat × Nat) := (89, 54, 121) :: Lj128
def Lj130 : List (Nat × Nat × Nat) := (89, 55, 122) :: Lj129
def Lj131 : List (Nat × Nat × Nat) := (89, 57, 123) :: Lj130
def Lj132 : List (Nat × Nat × Nat) := (89, 58, 124) :: Lj131
def Lj133 : List (Nat × Nat × Nat) := (89, 60, 125) :: Lj132
def fs34 : Nat → Nat → Int32 := up2 fs33 89 7 0
def fs35 : Nat → Nat → Int32 := fH fs34 94 1024
def fs36 : Nat → Nat → Int32 := up2 fs35 90 0 0
def fs37 : Nat → Nat → Int32 := up2 fs36 91 0 (-1)
def fs38 : Nat → Nat → Int32 := up2 fs37 92 0 (-1)
def fs39 : Nat → Nat → Int32 := up2 fs38 93 0 (-1)
def fs40 : Nat → Nat → Int32 := up2 fs39 94 416 0
def fs41 : Nat → Nat → Int32 := up2 fs40 89 7 1
def fs42 : Nat → Nat → Int32 := up2 fs41 89 16 0
set_option maxHeartbeats 4000000 in
theorem lp_heads {X : Nat × (Nat → Int32)} {fr bc bs : Nat} {L : List (Nat × Nat × Nat)} {f : Nat → Nat → Int32} {g : Nat → Nat → Int64} {Q : Option Value → Mem → Prop} (hr : (2, 6, 9) ∈ L) (k : ∀ M2, Cw 10 L (fH f 9 1024) g M2 → AW X (RX1, cX1_init, 2, none, true, true, fr) bc bs 89 [(1, .int (nI 1024)), (0, .ref 2)] [] M2 Q) : ∀ (j i : Nat) (M : Mem), i + j = 1024 → Cw 10 L (fH f 9 i) g M → AW X (RX1, cX1_init, 2, none, true, true, fr) bc bs 69 [(1, .int (nI i)), (0, .ref 2)] [] M Q := by
  intro j
  induction j with
  | zero =>
    intro i M hi h
    have e : i = 1024 := by omega
    subst e
    refine a_iload_n dX1_init_69 rfl rfl ?_
    refine a_sipush (v := 1024) dX1_init_70 (by decide) ?_
    exact a_icmp_ge 89 dX1_init_73 (by decide) (fun _ => k M h) (fun c => absurd (by decide +kernel) c)
  | succ j ih =>
    intro i M hi h
    refine a_iload_n dX1_init_69 rfl rfl ?_
    refine a_sipush (v := 1024) dX1_init_70 (by decide) ?_
    refine a_icmp_ge 89 dX1_init_73 (by decide) (fun c => absurd c (nI_ge (b := 1024) (by omega) (by decide))) (fun _ => ?_)
    refine a_aload_n dX1_init_76 rfl rfl ?_
    refine a_get (v := .ref 9) dX1_init_77 fl_1_31 (cw_l h (by decide)) (cw_s h (by decide) rfl) (cw_g h rfl hr) ?_
    refine a_iload_n dX1_init_80 rfl rfl ?_
    refine a_iconst (v := -1) dX1_init_81 (by decide) ?_
    refine a_iastore dX1_init_82 (cw_l h (by decide)) (cw_s h (by decide) rfl) (vp_in_nI (by omega) (by decide)) ?_
    have h2 := cw_I (a := 9) (k := (nI i).toNatClampNeg) (x := -1) h (by decide)
    rw [nI_clamp (show i < 2 ^ 31 by omega)] at h2 ⊢
    rw [fH_s] at h2
    refine a_iinc (v := nI (i + 1)) dX1_init_83 rfl (nI_1 i) (Nat.le_of_ble_eq_true rfl) (lv2 := [(1, .int (nI (i + 1))), (0, .ref 2)]) rfl ?_
    refine a_goto 69 dX1_init_86 (by decide) ?_
    exact ih (i + 1) _ (by omega) h2
set_option maxHeartbeats 4000000 in
theorem lp_first {X : Nat × (Nat → Int32)} {fr bc bs : Nat} {L : List (Nat × Nat × Nat)} {f : Nat → Nat → Int32} {g : Nat → Nat → Int64} {Q : Option Value → Mem → Prop} (hr : (89, 5, 94) ∈ L) (k : ∀ M2, Cw 126 L (fH f 94 1024) g M2 → AW X (RX11, cX11_clears, 2, none, false, true, fr) bc bs 27 [(1, .int (nI 1024)), (0, .ref 89)] [] M2 Q) : ∀ (j i : Nat) (M : Mem), i + j = 1024 → Cw 126 L (fH f 94 i) g M → AW X (RX11, cX11_clears, 2, none, false, true, fr) bc bs 7 [(1, .int (nI i)), (0, .ref 89)] [] M Q := by
  intro j
  induction j with
  | zero =>
    intro i M hi h
    have e : i = 1024 := by omega
    subst e
    refine a_iload_n dX11_clears_7 rfl rfl ?_
    refine a_sipush (v := 1024) dX11_clears_8 (by decide) ?_
    exact a_icmp_ge 27 dX11_clears_11 (by decide) (fun _ => k M h) (fun c => absurd (by decide +kernel) c)
  | succ j ih =>
    intro i M hi h
    refine a_iload_n dX11_clears_7 rfl rfl ?_
    refine a_sipush (v := 1024) dX11_clears_8 (by decide) ?_
    refine a_icmp_ge 27 dX11_clears_11 (by decide) (fun c => absurd c (nI_ge (b := 1024) (by omega) (by decide))) (fun _ => ?_)
    refine a_aload_n dX11_clears_14 rfl rfl ?_
    refine a_get (v := .ref 94) dX11_clears_15 fl_11_26 (cw_l h (by decide)) (cw_s h (by decide) rfl) (cw_g h rfl hr) ?_
    refine a_iload_n dX11_clears_18 rfl rfl ?_
    refine a_iconst (v := -1) dX11_clears_19 (by decide) ?_
    refine a_iastore dX11_clears_20 (cw_l h (by decide)) (cw_s h (by decide) rfl) (vp_in_nI (by omega) (by decide)) ?_
    have h2 := cw_I (a := 94) (k := (nI i).toNatClampNeg) (x := -1) h (by decide)
    rw [nI_clamp (show i < 2 ^ 31 by omega)] at h2 ⊢
    rw [fH_s] at h2
    refine a_iinc (v := nI (i + 1)) dX11_clears_21 rfl (nI_1 i) (Nat.le_of_ble_eq_true rfl) (lv2 := [(1, .int (nI (i + 1))), (0, .ref 89)]) rfl ?_
    refine a_goto 7 dX11_clears_24 (by decide) ?_
    exact ih (i + 1) _ (by omega) h2
