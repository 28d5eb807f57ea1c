theorem pv1 {q : MethodName × Nat} (h : q ∈ lw_privs_1) : q ∈ lw_privs := List.mem_append_left _ h
theorem pv2 {q : MethodName × Nat} (h : q ∈ lw_privs_2) : q ∈ lw_privs := List.mem_append_right _ (List.mem_append_left _ h)
theorem pv3 {q : MethodName × Nat} (h : q ∈ lw_privs_3) : q ∈ lw_privs := List.mem_append_right _ (List.mem_append_right _ (List.mem_append_left _ h))
theorem pv4 {q : MethodName × Nat} (h : q ∈ lw_privs_4) : q ∈ lw_privs := List.mem_append_right _ (List.mem_append_right _ (List.mem_append_right _ (List.mem_append_left _ h)))
theorem pv5 {q : MethodName × Nat} (h : q ∈ lw_privs_5) : q ∈ lw_privs := List.mem_append_right _ (List.mem_append_right _ (List.mem_append_right _ (List.mem_append_right _ (List.mem_append_left _ h))))
theorem pv6 {q : MethodName × Nat} (h : q ∈ lw_privs_6) : q ∈ lw_privs := List.mem_append_right _ (List.mem_append_right _ (List.mem_append_right _ (List.mem_append_right _ (List.mem_append_right _ (List.mem_append_left _ h)))))
theorem pv7 {q : MethodName × Nat} (h : q ∈ lw_privs_7) : q ∈ lw_privs := List.mem_append_right _ (List.mem_append_right _ (List.mem_append_right _ (List.mem_append_right _ (List.mem_append_right _ (List.mem_append_right _ (List.mem_append_left _ h))))))
theorem pv8 {q : MethodName × Nat} (h : q ∈ lw_privs_8) : q ∈ lw_privs := List.mem_append_right _ (List.mem_append_right _ (List.mem_append_right _ (List.mem_append_right _ (List.mem_append_right _ (List.mem_append_right _ (List.mem_append_right _ (List.mem_append_left _ h)))))))
theorem pv9 {q : MethodName × Nat} (h : q ∈ lw_privs_9) : q ∈ lw_privs := List.mem_append_right _ (List.mem_append_right _ (List.mem_append_right _ (List.mem_append_right _ (List.mem_append_right _ (List.mem_append_right _ (List.mem_append_right _ (List.mem_append_right _ (h))))))))
theorem oi_i : Cond.instanceMethod Lib.objectInit ∈ TT := tt_t (tm1 (List.mem_of_getElem? (i := 25) rfl)) rfl
theorem oi_c : Cond.code Lib.objectInit ⟨#[0xb1]⟩ 1 none ∈ TT := tt_t (tm1 (List.mem_of_getElem? (i := 26) rfl)) rfl
theorem mmin_s : Cond.static Lib.Math.min.name ∈ TT := tt_t (tm3 (List.mem_of_getElem? (i := 35) rfl)) rfl
theorem mmin_c : Cond.code Lib.Math.min.name Lib.Math.min.code 2 (some .int) ∈ TT := tt_t (tm3 (List.mem_of_getElem? (i := 36) rfl)) rfl
theorem mmax_s : Cond.static Lib.Math.max.name ∈ TT := tt_t (tm4 (List.mem_of_getElem? (i := 172) rfl)) rfl
theorem mmax_c : Cond.code Lib.Math.max.name Lib.Math.max.code 2 (some .int) ∈ TT := tt_t (tm4 (List.mem_of_getElem? (i := 173) rfl)) rfl
theorem ini_Math : Cond.initialized "java/lang/Math" ∈ TT := tt_t (tm1 (List.mem_of_getElem? (i := 17) rfl)) rfl
theorem mm_X6_54 : Cond.methodLink RX6 54 Lib.Math.min.name ∈ TT := tt_t (tm3 (List.mem_of_getElem? (i := 34) rfl)) rfl
theorem mm_X3_107 : Cond.methodLink RX3 107 Lib.Math.max.name ∈ TT := tt_t (tm4 (List.mem_of_getElem? (i := 171) rfl)) rfl
theorem mm_X0_73 : Cond.methodLink RX0 73 Lib.Math.min.name ∈ TT := tt_t (tm5 (List.mem_of_getElem? (i := 180) rfl)) rfl
theorem ini_L : Cond.initialized RL ∈ TT := tt_t (tm1 (List.mem_of_getElem? (i := 0) rfl)) rfl
theorem ini_X10 : Cond.initialized RX10 ∈ TT := tt_t (tm1 (List.mem_of_getElem? (i := 1) rfl)) rfl
theorem ini_X1 : Cond.initialized RX1 ∈ TT := tt_t (tm1 (List.mem_of_getElem? (i := 2) rfl)) rfl
theorem ini_X2 : Cond.initialized RX2 ∈ TT := tt_t (tm1 (List.mem_of_getElem? (i := 3) rfl)) rfl
theorem ini_X6 : Cond.initialized RX6 ∈ TT := tt_t (tm1 (List.mem_of_getElem? (i := 4) rfl)) rfl
theorem ini_J0 : Cond.initialized RJ0 ∈ TT := tt_t (tm1 (List.mem_of_getElem? (i := 5) rfl)) rfl
theorem ini_J1 : Cond.initialized RJ1 ∈ TT := tt_t (tm1 (List.mem_of_getElem? (i := 6) rfl)) rfl
theorem ini_J3 : Cond.initialized RJ3 ∈ TT := tt_t (tm1 (List.mem_of_getElem? (i := 7) rfl)) rfl
theorem ini_J2 : Cond.initialized RJ2 ∈ TT := tt_t (tm1 (List.mem_of_getElem? (i := 8) rfl)) rfl
theorem ini_X9 : Cond.initialized RX9 ∈ TT := tt_t (tm1 (List.mem_of_getElem? (i := 9) rfl)) rfl
theorem ini_X3 : Cond.initialized RX3 ∈ TT := tt_t (tm1 (List.mem_of_getElem? (i := 10) rfl)) rfl
theorem ini_X7 : Cond.initialized RX7 ∈ TT := tt_t (tm1 (List.mem_of_getElem? (i := 11) rfl)) rfl
theorem ini_X8 : Cond.initialized RX8 ∈ TT := tt_t (tm1 (List.mem_of_getElem? (i := 12) rfl)) rfl
theorem ini_X4 : Cond.initialized RX4 ∈ TT := tt_t (tm1 (List.mem_of_getElem? (i := 13) rfl)) rfl
theorem ini_X5 : Cond.initialized RX5 ∈ TT := tt_t (tm1 (List.mem_of_getElem? (i := 14) rfl)) rfl
theorem ini_X0 : Cond.initialized RX0 ∈ TT := tt_t (tm1 (List.mem_of_getElem? (i := 15) rfl)) rfl
theorem ini_X11 : Cond.initialized RX11 ∈ TT := tt_t (tm1 (List.mem_of_getElem? (i := 16) rfl)) rfl
theorem ini_J9 : Cond.initialized RJ9 ∈ TT := tt_t (tm1 (List.mem_of_getElem? (i := 17) rfl)) rfl
theorem ini_J10 : Cond.initialized RJ10 ∈ TT := tt_t (tm1 (List.mem_of_getElem? (i := 18) rfl)) rfl
theorem cl_L_7 : Cond.classLink RL 7 RX10 ∈ TT := tt_t (tm1 (List.mem_of_getElem? (i := 19) rfl)) rfl
theorem it_X10 : Cond.instantiable RX10 18 ∈ TT := tt_t (tm1 (List.mem_of_getElem? (i := 20) rfl)) rfl
theorem ml_L_9 : Cond.methodLink RL 9 yX10_init ∈ TT := tt_t (tm1 (List.mem_of_getElem? (i := 21) rfl)) rfl
theorem im_X10_init : Cond.instanceMethod yX10_init ∈ TT := tt_t (tm1 (List.mem_of_getElem? (i := 22) rfl)) rfl
theorem mw_X10_init : MW yX10_init cX10_init 2 0 none := ⟨tt_t (tm1 (List.mem_of_getElem? (i := 23) rfl)) rfl, ini_X10, ⟨by decide, by decide⟩, by decide +kernel, by decide⟩
theorem oi_X10 : Cond.methodLink RX10 1 Lib.objectInit ∈ TT := tt_t (tm1 (List.mem_of_getElem? (i := 24) rfl)) rfl
theorem cl_X10_13 : Cond.classLink RX10 13 RX1 ∈ TT := tt_t (tm1 (List.mem_of_getElem? (i := 27) rfl)) rfl
theorem it_X1 : Cond.instantiable RX1 9 ∈ TT := tt_t (tm1 (List.mem_of_getElem? (i := 28) rfl)) rfl
theorem ml_X10_15 : Cond.methodLink RX10 15 yX1_init ∈ TT := tt_t (tm1 (List.mem_of_getElem? (i := 29) rfl)) rfl
theorem im_X1_init : Cond.instanceMethod yX1_init ∈ TT := tt_t (tm1 (List.mem_of_getElem? (i := 30) rfl)) rfl
theorem mw_X1_init : MW yX1_init cX1_init 2 0 none := ⟨tt_t (tm1 (List.mem_of_getElem? (i := 31) rfl)) rfl, ini_X1, ⟨by decide, by decide⟩, by decide +kernel, by decide⟩
theorem oi_X1 : Cond.methodLink RX1 3 Lib.objectInit ∈ TT := tt_t (tm1 (List.mem_of_getElem? (i := 32) rfl)) rfl
theorem mn_X1_34 : Cond.methodLinkNest RX1 34 yX10_wordLength "ProofTrim" ∈ NW := nw_t (tm1 (List.mem_of_getElem? (i := 33) rfl)) rfl
theorem sm_X10_wordLength : Cond.static yX10_wordLength ∈ TT := tt_t (tm1 (List.mem_of_getElem? (i := 34) rfl)) rfl
theorem mw_X10_wordLength : MW yX10_wordLength cX10_wordLength 1 1 (some .int) := ⟨tt_t (tm1 (List.mem_of_getElem? (i := 35) rfl)) rfl, ini_X10, ⟨by decide, by decide⟩, by decide +kernel, by decide⟩
theorem sf_X10_336 : Cond.fieldLink RX10 336 RX10 "WORD_LENGTHS" "[I" ∈ TT := tt_t (tm1 (List.mem_of_getElem? (i := 36) rfl)) rfl
theorem ay_int : Cond.arrayClass .int ∈ TT := tt_t (tm1 (List.mem_of_getElem? (i := 66) rfl)) rfl
theorem ay_long : Cond.arrayClass .long ∈ TT := tt_t (tm1 (List.mem_of_getElem? (i := 67) rfl)) rfl
theorem cl_X10_20 : Cond.classLink RX10 20 RX2 ∈ TT := tt_t (tm1 (List.mem_of_getElem? (i := 68) rfl)) rfl
theorem it_X2 : Cond.instantiable RX2 4 ∈ TT := tt_t (tm1 (List.mem_of_getElem? (i := 69) rfl)) rfl
theorem mn_X10_22 : Cond.methodLinkNest RX10 22 yX2_init "ProofTrim" ∈ NW := nw_t (tm1 (List.mem_of_getElem? (i := 70) rfl)) rfl
theorem im_X2_init : Cond.instanceMethod yX2_init ∈ TT := tt_t (tm1 (List.mem_of_getElem? (i := 71) rfl)) rfl
theorem mw_X2_init : MW yX2_init cX2_init 1 0 none := ⟨tt_t (tm1 (List.mem_of_getElem? (i := 72) rfl)) rfl, ini_X2, ⟨by decide, by decide⟩, by decide +kernel, by decide⟩
theorem oi_X2 : Cond.methodLink RX2 3 Lib.objectInit ∈ TT := tt_t (tm1 (List.mem_of_getElem? (i := 73) rfl)) rfl
theorem cl_X10_27 : Cond.classLink RX10 27 RX6 ∈ TT := tt_t (tm1 (List.mem_of_getElem? (i := 91) rfl)) rfl
theorem it_X6 : Cond.instantiable RX6 19 ∈ TT := tt_t (tm1 (List.mem_of_getElem? (i := 92) rfl)) rfl
theorem ml_X10_29 : Cond.methodLink RX10 29 yX6_init ∈ TT := tt_t (tm1 (List.mem_of_getElem? (i := 93) rfl)) rfl
theorem im_X6_init : Cond.instanceMethod yX6_init ∈ TT := tt_t (tm1 (List.mem_of_getElem? (i := 94) rfl)) rfl
theorem mw_X6_init : MW yX6_init cX6_init 7 2 none := ⟨tt_t (tm1 (List.mem_of_getElem? (i := 95) rfl)) rfl, ini_X6, ⟨by decide, by decide⟩, by decide +kernel, by decide⟩
theorem oi_X6 : Cond.methodLink RX6 3 Lib.objectInit ∈ TT := tt_t (tm1 (List.mem_of_getElem? (i := 96) rfl)) rfl
theorem cl_X6_15 : Cond.classLink RX6 15 RX2 ∈ TT := tt_t (tm1 (List.mem_of_getElem? (i := 97) rfl)) rfl
theorem mn_X6_17 : Cond.methodLinkNest RX6 17 yX2_init "ProofTrim" ∈ NW := nw_t (tm1 (List.mem_of_getElem? (i := 98) rfl)) rfl
theorem mn_X6_46 : Cond.methodLinkNest RX6 46 yX10_wordLength "ProofTrim" ∈ NW := nw_t (tm1 (List.mem_of_getElem? (i := 99) rfl)) rfl
theorem mn_X6_50 : Cond.methodLinkNest RX6 50 yX10_wordLetter "ProofTrim" ∈ NW := nw_t (tm1 (List.mem_of_getElem? (i := 100) rfl)) rfl
theorem sm_X10_wordLetter : Cond.static yX10_wordLetter ∈ TT := tt_t (tm1 (List.mem_of_getElem? (i := 101) rfl)) rfl
theorem mw_X10_wordLetter : MW yX10_wordLetter cX10_wordLetter 2 2 (some .int) := ⟨tt_t (tm1 (List.mem_of_getElem? (i := 102) rfl)) rfl, ini_X10, ⟨by decide, by decide⟩, by decide +kernel, by decide⟩
theorem ml_X10_339 : Cond.methodLink RX10 339 yX10_wordLength ∈ TT := tt_t (tm1 (List.mem_of_getElem? (i := 103) rfl)) rfl
theorem ml_X10_344 : Cond.methodLink RX10 344 yJ0_charAt_5068e ∈ TT := tt_t (tm1 (List.mem_of_getElem? (i := 105) rfl)) rfl
theorem im_J0_charAt_5068e : Cond.instanceMethod yJ0_charAt_5068e ∈ TT := tt_t (tm1 (List.mem_of_getElem? (i := 106) rfl)) rfl
theorem se_J0_charAt_5068e : Cond.selects RJ0 yJ0_charAt_5068e yJ0_charAt_5068e ∈ TT := tt_t (tm1 (List.mem_of_getElem? (i := 107) rfl)) rfl
theorem mw_J0_charAt_5068e : MW yJ0_charAt_5068e cJ0_charAt_5068e 2 1 (some .char) := ⟨tt_t (tm1 (List.mem_of_getElem? (i := 108) rfl)) rfl, ini_J0, ⟨by decide, by decide⟩, by decide +kernel, by decide⟩
theorem ml_J0_492 : Cond.methodLink RJ0 492 yJ0_isLatin1_aae02 ∈ TT := tt_t (tm1 (List.mem_of_getElem? (i := 109) rfl)) rfl
theorem im_J0_isLatin1_aae02 : Cond.instanceMethod yJ0_isLatin1_aae02 ∈ TT := tt_t (tm1 (List.mem_of_getElem? (i := 110) rfl)) rfl
theorem se_J0_isLatin1_aae02 : Cond.selects RJ0 yJ0_isLatin1_aae02 yJ0_isLatin1_aae02 ∈ TT := tt_t (tm1 (List.mem_of_getElem? (i := 111) rfl)) rfl
theorem mw_J0_isLatin1_aae02 : MW yJ0_isLatin1_aae02 cJ0_isLatin1_aae02 1 0 (some .boolean) := ⟨tt_t (tm1 (List.mem_of_getElem? (i := 112) rfl)) rfl, ini_J0, ⟨by decide, by decide⟩, by decide +kernel, by decide⟩
theorem sf_J0_38 : Cond.fieldLink RJ0 38 RJ0 "COMPACT_STRINGS" "Z" ∈ TT := tt_t (tm1 (List.mem_of_getElem? (i := 113) rfl)) rfl
theorem ml_J0_495 : Cond.methodLink RJ0 495 yJ1_charAt_3b067 ∈ TT := tt_t (tm1 (List.mem_of_getElem? (i := 115) rfl)) rfl
theorem sm_J1_charAt_3b067 : Cond.static yJ1_charAt_3b067 ∈ TT := tt_t (tm1 (List.mem_of_getElem? (i := 116) rfl)) rfl
theorem mw_J1_charAt_3b067 : MW yJ1_charAt_3b067 cJ1_charAt_3b067 2 2 (some .char) := ⟨tt_t (tm1 (List.mem_of_getElem? (i := 117) rfl)) rfl, ini_J1, ⟨by decide, by decide⟩, by decide +kernel, by decide⟩
theorem ml_J1_9 : Cond.methodLink RJ1 9 yJ0_checkIndex_df160 ∈ TT := tt_t (tm1 (List.mem_of_getElem? (i := 118) rfl)) rfl
theorem sm_J0_checkIndex_df160 : Cond.static yJ0_checkIndex_df160 ∈ TT := tt_t (tm1 (List.mem_of_getElem? (i := 119) rfl)) rfl
theorem mw_J0_checkIndex_df160 : MW yJ0_checkIndex_df160 cJ0_checkIndex_df160 2 2 none := ⟨tt_t (tm1 (List.mem_of_getElem? (i := 120) rfl)) rfl, ini_J0, ⟨by decide, by decide⟩, by decide +kernel, by decide⟩
theorem sf_J0_1053 : Cond.fieldLink RJ0 1053 RJ3 "SIOOBE_FORMATTER" "Ljava/util/function/BiFunction;" ∈ TT := tt_t (tm1 (List.mem_of_getElem? (i := 121) rfl)) rfl
theorem ml_J0_1059 : Cond.methodLink RJ0 1059 yJ3_checkIndex_8e157 ∈ TT := tt_t (tm1 (List.mem_of_getElem? (i := 123) rfl)) rfl
theorem sm_J3_checkIndex_8e157 : Cond.static yJ3_checkIndex_8e157 ∈ TT := tt_t (tm1 (List.mem_of_getElem? (i := 124) rfl)) rfl
theorem mw_J3_checkIndex_8e157 : MW yJ3_checkIndex_8e157 cJ3_checkIndex_8e157 3 3 (some .int) := ⟨tt_t (tm1 (List.mem_of_getElem? (i := 125) rfl)) rfl, ini_J3, ⟨by decide, by decide⟩, by decide +kernel, by decide⟩
theorem ml_J0_498 : Cond.methodLink RJ0 498 yJ2_charAt_3b067 ∈ TT := tt_t (tm1 (List.mem_of_getElem? (i := 126) rfl)) rfl
theorem sm_J2_charAt_3b067 : Cond.static yJ2_charAt_3b067 ∈ TT := tt_t (tm1 (List.mem_of_getElem? (i := 127) rfl)) rfl
theorem mw_J2_charAt_3b067 : MW yJ2_charAt_3b067 cJ2_charAt_3b067 2 2 (some .char) := ⟨tt_t (tm1 (List.mem_of_getElem? (i := 128) rfl)) rfl, ini_J2, ⟨by decide, by decide⟩, by decide +kernel, by decide⟩
theorem ml_J2_67 : Cond.methodLink RJ2 67 yJ2_checkIndex_2214a ∈ TT := tt_t (tm1 (List.mem_of_getElem? (i := 129) rfl)) rfl
theorem sm_J2_checkIndex_2214a : Cond.static yJ2_checkIndex_2214a ∈ TT := tt_t (tm1 (List.mem_of_getElem? (i := 130) rfl)) rfl
theorem mw_J2_checkIndex_2214a : MW yJ2_checkIndex_2214a cJ2_checkIndex_2214a 2 2 none := ⟨tt_t (tm1 (List.mem_of_getElem? (i := 131) rfl)) rfl, ini_J2, ⟨by decide, by decide⟩, by decide +kernel, by decide⟩
theorem ml_J2_48 : Cond.methodLink RJ2 48 yJ2_length_9d52b ∈ TT := tt_t (tm1 (List.mem_of_getElem? (i := 132) rfl)) rfl
theorem sm_J2_length_9d52b : Cond.static yJ2_length_9d52b ∈ TT := tt_t (tm1 (List.mem_of_getElem? (i := 133) rfl)) rfl
theorem mw_J2_length_9d52b : MW yJ2_length_9d52b cJ2_length_9d52b 1 1 (some .int) := ⟨tt_t (tm1 (List.mem_of_getElem? (i := 134) rfl)) rfl, ini_J2, ⟨by decide, by decide⟩, by decide +kernel, by decide⟩
theorem ml_J2_414 : Cond.methodLink RJ2 414 yJ0_checkIndex_df160 ∈ TT := tt_t (tm1 (List.mem_of_getElem? (i := 135) rfl)) rfl
theorem ml_J2_71 : Cond.methodLink RJ2 71 yJ2_getChar_3b067 ∈ TT := tt_t (tm1 (List.mem_of_getElem? (i := 136) rfl)) rfl
theorem sm_J2_getChar_3b067 : Cond.static yJ2_getChar_3b067 ∈ TT := tt_t (tm1 (List.mem_of_getElem? (i := 137) rfl)) rfl
theorem mw_J2_getChar_3b067 : MW yJ2_getChar_3b067 cJ2_getChar_3b067 2 2 (some .char) := ⟨tt_t (tm1 (List.mem_of_getElem? (i := 138) rfl)) rfl, ini_J2, ⟨by decide, by decide⟩, by decide +kernel, by decide⟩
theorem ay_byte : Cond.arrayClass .byte ∈ TT := tt_t (tm1 (List.mem_of_getElem? (i := 208) rfl)) rfl
theorem cl_X10_36 : Cond.classLink RX10 36 RX9 ∈ TT := tt_t (tm1 (List.mem_of_getElem? (i := 209) rfl)) rfl
theorem it_X9 : Cond.instantiable RX9 4 ∈ TT := tt_t (tm1 (List.mem_of_getElem? (i := 211) rfl)) rfl
theorem mn_X10_42 : Cond.methodLinkNest RX10 42 yX9_init "ProofTrim" ∈ NW := nw_t (tm1 (List.mem_of_getElem? (i := 212) rfl)) rfl
theorem im_X9_init : Cond.instanceMethod yX9_init ∈ TT := tt_t (tm1 (List.mem_of_getElem? (i := 213) rfl)) rfl
theorem mw_X9_init : MW yX9_init cX9_init 1 0 none := ⟨tt_t (tm1 (List.mem_of_getElem? (i := 214) rfl)) rfl, ini_X9, ⟨by decide, by decide⟩, by decide +kernel, by decide⟩
theorem oi_X9 : Cond.methodLink RX9 3 Lib.objectInit ∈ TT := tt_t (tm1 (List.mem_of_getElem? (i := 215) rfl)) rfl
theorem cl_X10_47 : Cond.classLink RX10 47 RX3 ∈ TT := tt_t (tm1 (List.mem_of_getElem? (i := 235) rfl)) rfl
theorem it_X3 : Cond.instantiable RX3 13 ∈ TT := tt_t (tm1 (List.mem_of_getElem? (i := 236) rfl)) rfl
theorem ml_X10_49 : Cond.methodLink RX10 49 yX3_init ∈ TT := tt_t (tm1 (List.mem_of_getElem? (i := 237) rfl)) rfl
theorem im_X3_init : Cond.instanceMethod yX3_init ∈ TT := tt_t (tm1 (List.mem_of_getElem? (i := 238) rfl)) rfl
theorem mw_X3_init : MW yX3_init cX3_init 3 2 none := ⟨tt_t (tm1 (List.mem_of_getElem? (i := 239) rfl)) rfl, ini_X3, ⟨by decide, by decide⟩, by decide +kernel, by decide⟩
theorem oi_X3 : Cond.methodLink RX3 3 Lib.objectInit ∈ TT := tt_t (tm2 (List.mem_of_getElem? (i := 0) rfl)) rfl
theorem cl_X3_47 : Cond.classLink RX3 47 RX9 ∈ TT := tt_t (tm2 (List.mem_of_getElem? (i := 1) rfl)) rfl
theorem mn_X3_49 : Cond.methodLinkNest RX3 49 yX9_init "ProofTrim" ∈ NW := nw_t (tm2 (List.mem_of_getElem? (i := 2) rfl)) rfl
theorem cl_X10_56 : Cond.classLink RX10 56 RX7 ∈ TT := tt_t (tm2 (List.mem_of_getElem? (i := 46) rfl)) rfl
theorem it_X7 : Cond.instantiable RX7 5 ∈ TT := tt_t (tm2 (List.mem_of_getElem? (i := 47) rfl)) rfl
theorem ml_X10_58 : Cond.methodLink RX10 58 yX7_init ∈ TT := tt_t (tm2 (List.mem_of_getElem? (i := 48) rfl)) rfl
theorem im_X7_init : Cond.instanceMethod yX7_init ∈ TT := tt_t (tm2 (List.mem_of_getElem? (i := 49) rfl)) rfl
theorem mw_X7_init : MW yX7_init cX7_init 2 1 none := ⟨tt_t (tm2 (List.mem_of_getElem? (i := 50) rfl)) rfl, ini_X7, ⟨by decide, by decide⟩, by decide +kernel, by decide⟩
theorem oi_X7 : Cond.methodLink RX7 3 Lib.objectInit ∈ TT := tt_t (tm2 (List.mem_of_getElem? (i := 51) rfl)) rfl
theorem cl_X7_9 : Cond.classLink RX7 9 RX9 ∈ TT := tt_t (tm2 (List.mem_of_getElem? (i := 52) rfl)) rfl
theorem mn_X7_11 : Cond.methodLinkNest RX7 11 yX9_init "ProofTrim" ∈ NW := nw_t (tm2 (List.mem_of_getElem? (i := 53) rfl)) rfl
theorem cl_X10_65 : Cond.classLink RX10 65 RX8 ∈ TT := tt_t (tm2 (List.mem_of_getElem? (i := 70) rfl)) rfl
theorem it_X8 : Cond.instantiable RX8 5 ∈ TT := tt_t (tm2 (List.mem_of_getElem? (i := 71) rfl)) rfl
theorem ml_X10_67 : Cond.methodLink RX10 67 yX8_init ∈ TT := tt_t (tm2 (List.mem_of_getElem? (i := 72) rfl)) rfl
theorem im_X8_init : Cond.instanceMethod yX8_init ∈ TT := tt_t (tm2 (List.mem_of_getElem? (i := 73) rfl)) rfl
theorem mw_X8_init : MW yX8_init cX8_init 3 2 none := ⟨tt_t (tm2 (List.mem_of_getElem? (i := 74) rfl)) rfl, ini_X8, ⟨by decide, by decide⟩, by decide +kernel, by decide⟩
theorem oi_X8 : Cond.methodLink RX8 3 Lib.objectInit ∈ TT := tt_t (tm2 (List.mem_of_getElem? (i := 75) rfl)) rfl
theorem cl_X10_72 : Cond.classLink RX10 72 RX4 ∈ TT := tt_t (tm2 (List.mem_of_getElem? (i := 94) rfl)) rfl
theorem it_X4 : Cond.instantiable RX4 8 ∈ TT := tt_t (tm2 (List.mem_of_getElem? (i := 95) rfl)) rfl
theorem ml_X10_74 : Cond.methodLink RX10 74 yX4_init ∈ TT := tt_t (tm2 (List.mem_of_getElem? (i := 96) rfl)) rfl
theorem im_X4_init : Cond.instanceMethod yX4_init ∈ TT := tt_t (tm2 (List.mem_of_getElem? (i := 97) rfl)) rfl
theorem mw_X4_init : MW yX4_init cX4_init 2 1 none := ⟨tt_t (tm2 (List.mem_of_getElem? (i := 98) rfl)) rfl, ini_X4, ⟨by decide, by decide⟩, by decide +kernel, by decide⟩
theorem oi_X4 : Cond.methodLink RX4 3 Lib.objectInit ∈ TT := tt_t (tm2 (List.mem_of_getElem? (i := 99) rfl)) rfl
theorem cl_X10_81 : Cond.classLink RX10 81 RX5 ∈ TT := tt_t (tm2 (List.mem_of_getElem? (i := 126) rfl)) rfl
theorem it_X5 : Cond.instantiable RX5 7 ∈ TT := tt_t (tm2 (List.mem_of_getElem? (i := 127) rfl)) rfl
theorem ml_X10_83 : Cond.methodLink RX10 83 yX5_init ∈ TT := tt_t (tm2 (List.mem_of_getElem? (i := 128) rfl)) rfl
theorem im_X5_init : Cond.instanceMethod yX5_init ∈ TT := tt_t (tm2 (List.mem_of_getElem? (i := 129) rfl)) rfl
theorem mw_X5_init : MW yX5_init cX5_init 2 1 none := ⟨tt_t (tm2 (List.mem_of_getElem? (i := 130) rfl)) rfl, ini_X5, ⟨by decide, by decide⟩, by decide +kernel, by decide⟩
theorem oi_X5 : Cond.methodLink RX5 3 Lib.objectInit ∈ TT := tt_t (tm2 (List.mem_of_getElem? (i := 131) rfl)) rfl
theorem cl_X10_90 : Cond.classLink RX10 90 RX0 ∈ TT := tt_t (tm2 (List.mem_of_getElem? (i := 155) rfl)) rfl
theorem it_X0 : Cond.instantiable RX0 11 ∈ TT := tt_t (tm2 (List.mem_of_getElem? (i := 156) rfl)) rfl
theorem ml_X10_92 : Cond.methodLink RX10 92 yX0_init ∈ TT := tt_t (tm2 (List.mem_of_getElem? (i := 157) rfl)) rfl
theorem im_X0_init : Cond.instanceMethod yX0_init ∈ TT := tt_t (tm2 (List.mem_of_getElem? (i := 158) rfl)) rfl
theorem mw_X0_init : MW yX0_init cX0_init 2 1 none := ⟨tt_t (tm2 (List.mem_of_getElem? (i := 159) rfl)) rfl, ini_X0, ⟨by decide, by decide⟩, by decide +kernel, by decide⟩
theorem oi_X0 : Cond.methodLink RX0 3 Lib.objectInit ∈ TT := tt_t (tm2 (List.mem_of_getElem? (i := 160) rfl)) rfl
theorem ml_L_13 : Cond.methodLink RL 13 yX10_feed ∈ TT := tt_t (tm3 (List.mem_of_getElem? (i := 10) rfl)) rfl
theorem im_X10_feed : Cond.instanceMethod yX10_feed ∈ TT := tt_t (tm3 (List.mem_of_getElem? (i := 11) rfl)) rfl
theorem se_X10_feed : Cond.selects RX10 yX10_feed yX10_feed ∈ TT := tt_t (tm3 (List.mem_of_getElem? (i := 12) rfl)) rfl
theorem mw_X10_feed : MW yX10_feed cX10_feed 6 5 (some .int) := ⟨tt_t (tm3 (List.mem_of_getElem? (i := 13) rfl)) rfl, ini_X10, ⟨by decide, by decide⟩, by decide +kernel, by decide⟩
theorem ml_X10_115 : Cond.methodLink RX10 115 yX10_putBytes ∈ TT := tt_t (tm3 (List.mem_of_getElem? (i := 14) rfl)) rfl
theorem im_X10_putBytes : Cond.instanceMethod yX10_putBytes ∈ TT := tt_t (tm3 (List.mem_of_getElem? (i := 16) rfl)) rfl
theorem mw_X10_putBytes : MW yX10_putBytes cX10_putBytes 3 1 none := ⟨tt_t (tm3 (List.mem_of_getElem? (i := 17) rfl)) rfl, ini_X10, ⟨by decide, by decide⟩, by decide +kernel, by decide⟩
theorem ml_L_18 : Cond.methodLink RL 18 yX10_hypotheses ∈ TT := tt_t (tm3 (List.mem_of_getElem? (i := 18) rfl)) rfl
theorem im_X10_hypotheses : Cond.instanceMethod yX10_hypotheses ∈ TT := tt_t (tm3 (List.mem_of_getElem? (i := 19) rfl)) rfl
theorem se_X10_hypotheses : Cond.selects RX10 yX10_hypotheses yX10_hypotheses ∈ TT := tt_t (tm3 (List.mem_of_getElem? (i := 20) rfl)) rfl
theorem mw_X10_hypotheses : MW yX10_hypotheses cX10_hypotheses 3 1 (some .int) := ⟨tt_t (tm3 (List.mem_of_getElem? (i := 21) rfl)) rfl, ini_X10, ⟨by decide, by decide⟩, by decide +kernel, by decide⟩
theorem ml_X10_119 : Cond.methodLink RX10 119 yX10_tapeLacks ∈ TT := tt_t (tm3 (List.mem_of_getElem? (i := 22) rfl)) rfl
theorem im_X10_tapeLacks : Cond.instanceMethod yX10_tapeLacks ∈ TT := tt_t (tm3 (List.mem_of_getElem? (i := 24) rfl)) rfl
theorem mw_X10_tapeLacks : MW yX10_tapeLacks cX10_tapeLacks 2 1 (some .boolean) := ⟨tt_t (tm3 (List.mem_of_getElem? (i := 25) rfl)) rfl, ini_X10, ⟨by decide, by decide⟩, by decide +kernel, by decide⟩
theorem ml_X10_123 : Cond.methodLink RX10 123 yX6_readHypotheses ∈ TT := tt_t (tm3 (List.mem_of_getElem? (i := 26) rfl)) rfl
theorem im_X6_readHypotheses : Cond.instanceMethod yX6_readHypotheses ∈ TT := tt_t (tm3 (List.mem_of_getElem? (i := 27) rfl)) rfl
theorem se_X6_readHypotheses : Cond.selects RX6 yX6_readHypotheses yX6_readHypotheses ∈ TT := tt_t (tm3 (List.mem_of_getElem? (i := 28) rfl)) rfl
theorem mw_X6_readHypotheses : MW yX6_readHypotheses cX6_readHypotheses 3 1 (some .boolean) := ⟨tt_t (tm3 (List.mem_of_getElem? (i := 29) rfl)) rfl, ini_X6, ⟨by decide, by decide⟩, by decide +kernel, by decide⟩
theorem ml_X6_90 : Cond.methodLink RX6 90 yX6_begin ∈ TT := tt_t (tm3 (List.mem_of_getElem? (i := 30) rfl)) rfl
theorem im_X6_begin : Cond.instanceMethod yX6_begin ∈ TT := tt_t (tm3 (List.mem_of_getElem? (i := 32) rfl)) rfl
theorem mw_X6_begin : MW yX6_begin cX6_begin 2 1 none := ⟨tt_t (tm3 (List.mem_of_getElem? (i := 33) rfl)) rfl, ini_X6, ⟨by decide, by decide⟩, by decide +kernel, by decide⟩
theorem ml_X6_54 : Cond.methodLink RX6 54 yJ9_min_7cf53 ∈ TT := tt_t (tm3 (List.mem_of_getElem? (i := 34) rfl)) rfl
theorem sm_J9_min_7cf53 : Cond.static yJ9_min_7cf53 ∈ TT := tt_t (tm3 (List.mem_of_getElem? (i := 35) rfl)) rfl
theorem mw_J9_min_7cf53 : MW yJ9_min_7cf53 cJ9_min_7cf53 2 2 (some .int) := ⟨tt_t (tm3 (List.mem_of_getElem? (i := 36) rfl)) rfl, ini_J9, ⟨by decide, by decide⟩, by decide +kernel, by decide⟩
theorem ml_X6_94 : Cond.methodLink RX6 94 yX2_clear ∈ TT := tt_t (tm3 (List.mem_of_getElem? (i := 37) rfl)) rfl
theorem im_X2_clear : Cond.instanceMethod yX2_clear ∈ TT := tt_t (tm3 (List.mem_of_getElem? (i := 38) rfl)) rfl
theorem se_X2_clear : Cond.selects RX2 yX2_clear yX2_clear ∈ TT := tt_t (tm3 (List.mem_of_getElem? (i := 39) rfl)) rfl
theorem mw_X2_clear : MW yX2_clear cX2_clear 1 0 none := ⟨tt_t (tm3 (List.mem_of_getElem? (i := 40) rfl)) rfl, ini_X2, ⟨by decide, by decide⟩, by decide +kernel, by decide⟩
theorem ml_X6_97 : Cond.methodLink RX6 97 yX6_advance ∈ TT := tt_t (tm3 (List.mem_of_getElem? (i := 41) rfl)) rfl
theorem im_X6_advance : Cond.instanceMethod yX6_advance ∈ TT := tt_t (tm3 (List.mem_of_getElem? (i := 43) rfl)) rfl
theorem mw_X6_advance : MW yX6_advance cX6_advance 1 0 none := ⟨tt_t (tm3 (List.mem_of_getElem? (i := 44) rfl)) rfl, ini_X6, ⟨by decide, by decide⟩, by decide +kernel, by decide⟩
theorem ml_X6_78 : Cond.methodLink RX6 78 yX6_isLetter ∈ TT := tt_t (tm3 (List.mem_of_getElem? (i := 45) rfl)) rfl
theorem sm_X6_isLetter : Cond.static yX6_isLetter ∈ TT := tt_t (tm3 (List.mem_of_getElem? (i := 46) rfl)) rfl
theorem mw_X6_isLetter : MW yX6_isLetter cX6_isLetter 1 1 (some .boolean) := ⟨tt_t (tm3 (List.mem_of_getElem? (i := 47) rfl)) rfl, ini_X6, ⟨by decide, by decide⟩, by decide +kernel, by decide⟩
theorem ml_X6_82 : Cond.methodLink RX6 82 yX6_codeOf ∈ TT := tt_t (tm3 (List.mem_of_getElem? (i := 48) rfl)) rfl
theorem im_X6_codeOf : Cond.instanceMethod yX6_codeOf ∈ TT := tt_t (tm3 (List.mem_of_getElem? (i := 50) rfl)) rfl
theorem mw_X6_codeOf : MW yX6_codeOf cX6_codeOf 4 1 (some .int) := ⟨tt_t (tm3 (List.mem_of_getElem? (i := 51) rfl)) rfl, ini_X6, ⟨by decide, by decide⟩, by decide +kernel, by decide⟩
theorem ml_X6_100 : Cond.methodLink RX6 100 yX6_readHypothesis ∈ TT := tt_t (tm3 (List.mem_of_getElem? (i := 52) rfl)) rfl
theorem im_X6_readHypothesis : Cond.instanceMethod yX6_readHypothesis ∈ TT := tt_t (tm3 (List.mem_of_getElem? (i := 54) rfl)) rfl
theorem mw_X6_readHypothesis : MW yX6_readHypothesis cX6_readHypothesis 4 0 (some .boolean) := ⟨tt_t (tm3 (List.mem_of_getElem? (i := 55) rfl)) rfl, ini_X6, ⟨by decide, by decide⟩, by decide +kernel, by decide⟩
theorem ml_X6_104 : Cond.methodLink RX6 104 yX6_atName ∈ TT := tt_t (tm3 (List.mem_of_getElem? (i := 56) rfl)) rfl
theorem im_X6_atName : Cond.instanceMethod yX6_atName ∈ TT := tt_t (tm3 (List.mem_of_getElem? (i := 58) rfl)) rfl
theorem mw_X6_atName : MW yX6_atName cX6_atName 1 0 (some .boolean) := ⟨tt_t (tm3 (List.mem_of_getElem? (i := 59) rfl)) rfl, ini_X6, ⟨by decide, by decide⟩, by decide +kernel, by decide⟩
theorem ml_X6_86 : Cond.methodLink RX6 86 yX6_wordLetters ∈ TT := tt_t (tm3 (List.mem_of_getElem? (i := 60) rfl)) rfl
theorem im_X6_wordLetters : Cond.instanceMethod yX6_wordLetters ∈ TT := tt_t (tm3 (List.mem_of_getElem? (i := 62) rfl)) rfl
theorem mw_X6_wordLetters : MW yX6_wordLetters cX6_wordLetters 1 0 (some .int) := ⟨tt_t (tm3 (List.mem_of_getElem? (i := 63) rfl)) rfl, ini_X6, ⟨by decide, by decide⟩, by decide +kernel, by decide⟩
theorem ml_X6_107 : Cond.methodLink RX6 107 yX6_fail ∈ TT := tt_t (tm3 (List.mem_of_getElem? (i := 64) rfl)) rfl
theorem im_X6_fail : Cond.instanceMethod yX6_fail ∈ TT := tt_t (tm3 (List.mem_of_getElem? (i := 66) rfl)) rfl
theorem mw_X6_fail : MW yX6_fail cX6_fail 3 2 (some .boolean) := ⟨tt_t (tm3 (List.mem_of_getElem? (i := 67) rfl)) rfl, ini_X6, ⟨by decide, by decide⟩, by decide +kernel, by decide⟩
theorem ml_X6_111 : Cond.methodLink RX6 111 yX6_nameRead ∈ TT := tt_t (tm3 (List.mem_of_getElem? (i := 68) rfl)) rfl
theorem im_X6_nameRead : Cond.instanceMethod yX6_nameRead ∈ TT := tt_t (tm3 (List.mem_of_getElem? (i := 70) rfl)) rfl
theorem mw_X6_nameRead : MW yX6_nameRead cX6_nameRead 1 0 (some .int) := ⟨tt_t (tm3 (List.mem_of_getElem? (i := 71) rfl)) rfl, ini_X6, ⟨by decide, by decide⟩, by decide +kernel, by decide⟩
theorem mn_X6_114 : Cond.methodLinkNest RX6 114 yX10_nameLetter "ProofTrim" ∈ NW := nw_t (tm3 (List.mem_of_getElem? (i := 72) rfl)) rfl
theorem sm_X10_nameLetter : Cond.static yX10_nameLetter ∈ TT := tt_t (tm3 (List.mem_of_getElem? (i := 73) rfl)) rfl
theorem mw_X10_nameLetter : MW yX10_nameLetter cX10_nameLetter 3 2 (some .int) := ⟨tt_t (tm3 (List.mem_of_getElem? (i := 74) rfl)) rfl, ini_X10, ⟨by decide, by decide⟩, by decide +kernel, by decide⟩
theorem ml_X6_117 : Cond.methodLink RX6 117 yX2_find ∈ TT := tt_t (tm3 (List.mem_of_getElem? (i := 75) rfl)) rfl
theorem im_X2_find : Cond.instanceMethod yX2_find ∈ TT := tt_t (tm3 (List.mem_of_getElem? (i := 76) rfl)) rfl
theorem se_X2_find : Cond.selects RX2 yX2_find yX2_find ∈ TT := tt_t (tm3 (List.mem_of_getElem? (i := 77) rfl)) rfl
theorem mw_X2_find : MW yX2_find cX2_find 3 1 (some .int) := ⟨tt_t (tm3 (List.mem_of_getElem? (i := 78) rfl)) rfl, ini_X2, ⟨by decide, by decide⟩, by decide +kernel, by decide⟩
theorem ml_X6_120 : Cond.methodLink RX6 120 yX2_isFull ∈ TT := tt_t (tm3 (List.mem_of_getElem? (i := 79) rfl)) rfl
theorem im_X2_isFull : Cond.instanceMethod yX2_isFull ∈ TT := tt_t (tm3 (List.mem_of_getElem? (i := 80) rfl)) rfl
theorem se_X2_isFull : Cond.selects RX2 yX2_isFull yX2_isFull ∈ TT := tt_t (tm3 (List.mem_of_getElem? (i := 81) rfl)) rfl
theorem mw_X2_isFull : MW yX2_isFull cX2_isFull 1 0 (some .boolean) := ⟨tt_t (tm3 (List.mem_of_getElem? (i := 82) rfl)) rfl, ini_X2, ⟨by decide, by decide⟩, by decide +kernel, by decide⟩
theorem ml_X6_123 : Cond.methodLink RX6 123 yX6_readFormula ∈ TT := tt_t (tm3 (List.mem_of_getElem? (i := 83) rfl)) rfl
theorem im_X6_readFormula : Cond.instanceMethod yX6_readFormula ∈ TT := tt_t (tm3 (List.mem_of_getElem? (i := 85) rfl)) rfl
theorem mw_X6_readFormula : MW yX6_readFormula cX6_readFormula 4 0 (some .int) := ⟨tt_t (tm3 (List.mem_of_getElem? (i := 86) rfl)) rfl, ini_X6, ⟨by decide, by decide⟩, by decide +kernel, by decide⟩
theorem ml_X6_141 : Cond.methodLink RX6 141 yX6_buildFormula ∈ TT := tt_t (tm3 (List.mem_of_getElem? (i := 87) rfl)) rfl
theorem im_X6_buildFormula : Cond.instanceMethod yX6_buildFormula ∈ TT := tt_t (tm3 (List.mem_of_getElem? (i := 89) rfl)) rfl
theorem mw_X6_buildFormula : MW yX6_buildFormula cX6_buildFormula 5 1 (some .int) := ⟨tt_t (tm3 (List.mem_of_getElem? (i := 90) rfl)) rfl, ini_X6, ⟨by decide, by decide⟩, by decide +kernel, by decide⟩
theorem mn_X6_144 : Cond.methodLinkNest RX6 144 yX10_at "ProofTrim" ∈ NW := nw_t (tm3 (List.mem_of_getElem? (i := 91) rfl)) rfl
theorem sm_X10_at : Cond.static yX10_at ∈ TT := tt_t (tm3 (List.mem_of_getElem? (i := 92) rfl)) rfl
theorem mw_X10_at : MW yX10_at cX10_at 2 2 (some .int) := ⟨tt_t (tm3 (List.mem_of_getElem? (i := 93) rfl)) rfl, ini_X10, ⟨by decide, by decide⟩, by decide +kernel, by decide⟩
theorem ml_X6_148 : Cond.methodLink RX6 148 yX1_make ∈ TT := tt_t (tm3 (List.mem_of_getElem? (i := 94) rfl)) rfl
theorem im_X1_make : Cond.instanceMethod yX1_make ∈ TT := tt_t (tm3 (List.mem_of_getElem? (i := 95) rfl)) rfl
theorem se_X1_make : Cond.selects RX1 yX1_make yX1_make ∈ TT := tt_t (tm3 (List.mem_of_getElem? (i := 96) rfl)) rfl
theorem mw_X1_make : MW yX1_make cX1_make 7 3 (some .int) := ⟨tt_t (tm3 (List.mem_of_getElem? (i := 97) rfl)) rfl, ini_X1, ⟨by decide, by decide⟩, by decide +kernel, by decide⟩
theorem ml_X1_42 : Cond.methodLink RX1 42 yX1_bytesOf ∈ TT := tt_t (tm3 (List.mem_of_getElem? (i := 98) rfl)) rfl
theorem im_X1_bytesOf : Cond.instanceMethod yX1_bytesOf ∈ TT := tt_t (tm3 (List.mem_of_getElem? (i := 99) rfl)) rfl
theorem se_X1_bytesOf : Cond.selects RX1 yX1_bytesOf yX1_bytesOf ∈ TT := tt_t (tm3 (List.mem_of_getElem? (i := 100) rfl)) rfl
theorem mw_X1_bytesOf : MW yX1_bytesOf cX1_bytesOf 2 1 (some .long) := ⟨tt_t (tm3 (List.mem_of_getElem? (i := 101) rfl)) rfl, ini_X1, ⟨by decide, by decide⟩, by decide +kernel, by decide⟩
theorem co_X6_126 : Cond.constantLong RX6 126 (59) ∈ TT := tt_t (tm3 (List.mem_of_getElem? (i := 102) rfl)) rfl
theorem ml_X6_131 : Cond.methodLink RX6 131 yX2_add ∈ TT := tt_t (tm3 (List.mem_of_getElem? (i := 103) rfl)) rfl
theorem im_X2_add : Cond.instanceMethod yX2_add ∈ TT := tt_t (tm3 (List.mem_of_getElem? (i := 104) rfl)) rfl
theorem se_X2_add : Cond.selects RX2 yX2_add yX2_add ∈ TT := tt_t (tm3 (List.mem_of_getElem? (i := 105) rfl)) rfl
theorem mw_X2_add : MW yX2_add cX2_add 4 3 none := ⟨tt_t (tm3 (List.mem_of_getElem? (i := 106) rfl)) rfl, ini_X2, ⟨by decide, by decide⟩, by decide +kernel, by decide⟩
theorem ml_X10_132 : Cond.methodLink RX10 132 yX2_takeOver ∈ TT := tt_t (tm3 (List.mem_of_getElem? (i := 107) rfl)) rfl
theorem im_X2_takeOver : Cond.instanceMethod yX2_takeOver ∈ TT := tt_t (tm3 (List.mem_of_getElem? (i := 108) rfl)) rfl
theorem se_X2_takeOver : Cond.selects RX2 yX2_takeOver yX2_takeOver ∈ TT := tt_t (tm3 (List.mem_of_getElem? (i := 109) rfl)) rfl
theorem mw_X2_takeOver : MW yX2_takeOver cX2_takeOver 3 1 none := ⟨tt_t (tm3 (List.mem_of_getElem? (i := 110) rfl)) rfl, ini_X2, ⟨by decide, by decide⟩, by decide +kernel, by decide⟩
theorem ml_X2_25 : Cond.methodLink RX2 25 yX2_clear ∈ TT := tt_t (tm3 (List.mem_of_getElem? (i := 111) rfl)) rfl
theorem ml_X2_28 : Cond.methodLink RX2 28 yX2_add ∈ TT := tt_t (tm3 (List.mem_of_getElem? (i := 112) rfl)) rfl
theorem ml_X10_135 : Cond.methodLink RX10 135 yX9_clear ∈ TT := tt_t (tm3 (List.mem_of_getElem? (i := 113) rfl)) rfl
theorem im_X9_clear : Cond.instanceMethod yX9_clear ∈ TT := tt_t (tm3 (List.mem_of_getElem? (i := 114) rfl)) rfl
theorem se_X9_clear : Cond.selects RX9 yX9_clear yX9_clear ∈ TT := tt_t (tm3 (List.mem_of_getElem? (i := 115) rfl)) rfl
theorem mw_X9_clear : MW yX9_clear cX9_clear 1 0 none := ⟨tt_t (tm3 (List.mem_of_getElem? (i := 116) rfl)) rfl, ini_X9, ⟨by decide, by decide⟩, by decide +kernel, by decide⟩
theorem ml_L_23 : Cond.methodLink RL 23 yX10_goal ∈ TT := tt_t (tm3 (List.mem_of_getElem? (i := 117) rfl)) rfl
theorem im_X10_goal : Cond.instanceMethod yX10_goal ∈ TT := tt_t (tm3 (List.mem_of_getElem? (i := 118) rfl)) rfl
theorem se_X10_goal : Cond.selects RX10 yX10_goal yX10_goal ∈ TT := tt_t (tm3 (List.mem_of_getElem? (i := 119) rfl)) rfl
theorem mw_X10_goal : MW yX10_goal cX10_goal 3 1 (some .int) := ⟨tt_t (tm3 (List.mem_of_getElem? (i := 120) rfl)) rfl, ini_X10, ⟨by decide, by decide⟩, by decide +kernel, by decide⟩
theorem ml_X10_141 : Cond.methodLink RX10 141 yX6_readGoal ∈ TT := tt_t (tm3 (List.mem_of_getElem? (i := 121) rfl)) rfl
theorem im_X6_readGoal : Cond.instanceMethod yX6_readGoal ∈ TT := tt_t (tm3 (List.mem_of_getElem? (i := 122) rfl)) rfl
theorem se_X6_readGoal : Cond.selects RX6 yX6_readGoal yX6_readGoal ∈ TT := tt_t (tm3 (List.mem_of_getElem? (i := 123) rfl)) rfl
theorem mw_X6_readGoal : MW yX6_readGoal cX6_readGoal 3 1 (some .int) := ⟨tt_t (tm3 (List.mem_of_getElem? (i := 124) rfl)) rfl, ini_X6, ⟨by decide, by decide⟩, by decide +kernel, by decide⟩
theorem ml_X6_135 : Cond.methodLink RX6 135 yX6_readEnd ∈ TT := tt_t (tm3 (List.mem_of_getElem? (i := 125) rfl)) rfl
theorem im_X6_readEnd : Cond.instanceMethod yX6_readEnd ∈ TT := tt_t (tm3 (List.mem_of_getElem? (i := 127) rfl)) rfl
theorem mw_X6_readEnd : MW yX6_readEnd cX6_readEnd 1 0 (some .boolean) := ⟨tt_t (tm3 (List.mem_of_getElem? (i := 128) rfl)) rfl, ini_X6, ⟨by decide, by decide⟩, by decide +kernel, by decide⟩
theorem ml_L_27 : Cond.methodLink RL 27 yX10_proof ∈ TT := tt_t (tm3 (List.mem_of_getElem? (i := 129) rfl)) rfl
theorem im_X10_proof : Cond.instanceMethod yX10_proof ∈ TT := tt_t (tm3 (List.mem_of_getElem? (i := 130) rfl)) rfl
theorem se_X10_proof : Cond.selects RX10 yX10_proof yX10_proof ∈ TT := tt_t (tm3 (List.mem_of_getElem? (i := 131) rfl)) rfl
theorem mw_X10_proof : MW yX10_proof cX10_proof 4 2 (some .int) := ⟨tt_t (tm3 (List.mem_of_getElem? (i := 132) rfl)) rfl, ini_X10, ⟨by decide, by decide⟩, by decide +kernel, by decide⟩
theorem ml_X10_151 : Cond.methodLink RX10 151 yX10_noSlot ∈ TT := tt_t (tm3 (List.mem_of_getElem? (i := 133) rfl)) rfl
theorem sm_X10_noSlot : Cond.static yX10_noSlot ∈ TT := tt_t (tm3 (List.mem_of_getElem? (i := 134) rfl)) rfl
theorem mw_X10_noSlot : MW yX10_noSlot cX10_noSlot 1 1 (some .boolean) := ⟨tt_t (tm3 (List.mem_of_getElem? (i := 135) rfl)) rfl, ini_X10, ⟨by decide, by decide⟩, by decide +kernel, by decide⟩
theorem ml_X10_154 : Cond.methodLink RX10 154 yX6_readTerm ∈ TT := tt_t (tm3 (List.mem_of_getElem? (i := 136) rfl)) rfl
theorem im_X6_readTerm : Cond.instanceMethod yX6_readTerm ∈ TT := tt_t (tm3 (List.mem_of_getElem? (i := 137) rfl)) rfl
theorem se_X6_readTerm : Cond.selects RX6 yX6_readTerm yX6_readTerm ∈ TT := tt_t (tm3 (List.mem_of_getElem? (i := 138) rfl)) rfl
theorem mw_X6_readTerm : MW yX6_readTerm cX6_readTerm 5 3 (some .boolean) := ⟨tt_t (tm3 (List.mem_of_getElem? (i := 139) rfl)) rfl, ini_X6, ⟨by decide, by decide⟩, by decide +kernel, by decide⟩
theorem ml_X6_154 : Cond.methodLink RX6 154 yX9_clear ∈ TT := tt_t (tm3 (List.mem_of_getElem? (i := 140) rfl)) rfl
theorem ml_X6_163 : Cond.methodLink RX6 163 yX6_push ∈ TT := tt_t (tm3 (List.mem_of_getElem? (i := 141) rfl)) rfl
theorem im_X6_push : Cond.instanceMethod yX6_push ∈ TT := tt_t (tm3 (List.mem_of_getElem? (i := 143) rfl)) rfl
theorem mw_X6_push : MW yX6_push cX6_push 2 1 none := ⟨tt_t (tm3 (List.mem_of_getElem? (i := 144) rfl)) rfl, ini_X6, ⟨by decide, by decide⟩, by decide +kernel, by decide⟩
theorem ml_X6_166 : Cond.methodLink RX6 166 yX6_pop ∈ TT := tt_t (tm3 (List.mem_of_getElem? (i := 145) rfl)) rfl
theorem im_X6_pop : Cond.instanceMethod yX6_pop ∈ TT := tt_t (tm3 (List.mem_of_getElem? (i := 147) rfl)) rfl
theorem mw_X6_pop : MW yX6_pop cX6_pop 1 0 (some .int) := ⟨tt_t (tm3 (List.mem_of_getElem? (i := 148) rfl)) rfl, ini_X6, ⟨by decide, by decide⟩, by decide +kernel, by decide⟩
theorem ml_X6_169 : Cond.methodLink RX6 169 yX6_readWanted ∈ TT := tt_t (tm3 (List.mem_of_getElem? (i := 149) rfl)) rfl
theorem im_X6_readWanted : Cond.instanceMethod yX6_readWanted ∈ TT := tt_t (tm3 (List.mem_of_getElem? (i := 151) rfl)) rfl
theorem mw_X6_readWanted : MW yX6_readWanted cX6_readWanted 5 3 (some .boolean) := ⟨tt_t (tm3 (List.mem_of_getElem? (i := 152) rfl)) rfl, ini_X6, ⟨by decide, by decide⟩, by decide +kernel, by decide⟩
theorem ml_X6_176 : Cond.methodLink RX6 176 yX9_tell ∈ TT := tt_t (tm3 (List.mem_of_getElem? (i := 153) rfl)) rfl
theorem im_X9_tell : Cond.instanceMethod yX9_tell ∈ TT := tt_t (tm3 (List.mem_of_getElem? (i := 154) rfl)) rfl
theorem se_X9_tell : Cond.selects RX9 yX9_tell yX9_tell ∈ TT := tt_t (tm3 (List.mem_of_getElem? (i := 155) rfl)) rfl
theorem mw_X9_tell : MW yX9_tell cX9_tell 3 2 none := ⟨tt_t (tm3 (List.mem_of_getElem? (i := 156) rfl)) rfl, ini_X9, ⟨by decide, by decide⟩, by decide +kernel, by decide⟩
theorem ml_X6_180 : Cond.methodLink RX6 180 yX6_readBinder ∈ TT := tt_t (tm3 (List.mem_of_getElem? (i := 157) rfl)) rfl
theorem im_X6_readBinder : Cond.instanceMethod yX6_readBinder ∈ TT := tt_t (tm3 (List.mem_of_getElem? (i := 159) rfl)) rfl
theorem mw_X6_readBinder : MW yX6_readBinder cX6_readBinder 1 0 (some .boolean) := ⟨tt_t (tm3 (List.mem_of_getElem? (i := 160) rfl)) rfl, ini_X6, ⟨by decide, by decide⟩, by decide +kernel, by decide⟩
theorem ml_X6_183 : Cond.methodLink RX6 183 yX6_readFirstWord ∈ TT := tt_t (tm3 (List.mem_of_getElem? (i := 161) rfl)) rfl
theorem im_X6_readFirstWord : Cond.instanceMethod yX6_readFirstWord ∈ TT := tt_t (tm3 (List.mem_of_getElem? (i := 163) rfl)) rfl
theorem mw_X6_readFirstWord : MW yX6_readFirstWord cX6_readFirstWord 7 2 (some .boolean) := ⟨tt_t (tm3 (List.mem_of_getElem? (i := 164) rfl)) rfl, ini_X6, ⟨by decide, by decide⟩, by decide +kernel, by decide⟩
theorem ml_X6_187 : Cond.methodLink RX6 187 yX6_meaning ∈ TT := tt_t (tm3 (List.mem_of_getElem? (i := 165) rfl)) rfl
theorem im_X6_meaning : Cond.instanceMethod yX6_meaning ∈ TT := tt_t (tm3 (List.mem_of_getElem? (i := 167) rfl)) rfl
theorem mw_X6_meaning : MW yX6_meaning cX6_meaning 4 2 (some .int) := ⟨tt_t (tm3 (List.mem_of_getElem? (i := 168) rfl)) rfl, ini_X6, ⟨by decide, by decide⟩, by decide +kernel, by decide⟩
theorem ml_X6_191 : Cond.methodLink RX6 191 yX9_add ∈ TT := tt_t (tm3 (List.mem_of_getElem? (i := 169) rfl)) rfl
theorem im_X9_add : Cond.instanceMethod yX9_add ∈ TT := tt_t (tm3 (List.mem_of_getElem? (i := 170) rfl)) rfl
theorem se_X9_add : Cond.selects RX9 yX9_add yX9_add ∈ TT := tt_t (tm3 (List.mem_of_getElem? (i := 171) rfl)) rfl
theorem mw_X9_add : MW yX9_add cX9_add 3 2 none := ⟨tt_t (tm3 (List.mem_of_getElem? (i := 172) rfl)) rfl, ini_X9, ⟨by decide, by decide⟩, by decide +kernel, by decide⟩
theorem ml_X6_193 : Cond.methodLink RX6 193 yX6_wantRest ∈ TT := tt_t (tm3 (List.mem_of_getElem? (i := 173) rfl)) rfl
theorem im_X6_wantRest : Cond.instanceMethod yX6_wantRest ∈ TT := tt_t (tm3 (List.mem_of_getElem? (i := 175) rfl)) rfl
theorem mw_X6_wantRest : MW yX6_wantRest cX6_wantRest 3 1 none := ⟨tt_t (tm3 (List.mem_of_getElem? (i := 176) rfl)) rfl, ini_X6, ⟨by decide, by decide⟩, by decide +kernel, by decide⟩
theorem ml_X6_196 : Cond.methodLink RX6 196 yX6_wantBoundTerm ∈ TT := tt_t (tm3 (List.mem_of_getElem? (i := 177) rfl)) rfl
theorem im_X6_wantBoundTerm : Cond.instanceMethod yX6_wantBoundTerm ∈ TT := tt_t (tm3 (List.mem_of_getElem? (i := 179) rfl)) rfl
theorem mw_X6_wantBoundTerm : MW yX6_wantBoundTerm cX6_wantBoundTerm 1 0 none := ⟨tt_t (tm3 (List.mem_of_getElem? (i := 180) rfl)) rfl, ini_X6, ⟨by decide, by decide⟩, by decide +kernel, by decide⟩
theorem mn_X6_199 : Cond.methodLinkNest RX6 199 yX10_arity "ProofTrim" ∈ NW := nw_t (tm3 (List.mem_of_getElem? (i := 181) rfl)) rfl
theorem sm_X10_arity : Cond.static yX10_arity ∈ TT := tt_t (tm3 (List.mem_of_getElem? (i := 182) rfl)) rfl
theorem mw_X10_arity : MW yX10_arity cX10_arity 1 1 (some .int) := ⟨tt_t (tm3 (List.mem_of_getElem? (i := 183) rfl)) rfl, ini_X10, ⟨by decide, by decide⟩, by decide +kernel, by decide⟩
theorem sf_X10_350 : Cond.fieldLink RX10 350 RX10 "ARITIES" "[I" ∈ TT := tt_t (tm3 (List.mem_of_getElem? (i := 184) rfl)) rfl
theorem mn_X6_202 : Cond.methodLinkNest RX6 202 yX10_tellsFormula "ProofTrim" ∈ NW := nw_t (tm3 (List.mem_of_getElem? (i := 186) rfl)) rfl
theorem sm_X10_tellsFormula : Cond.static yX10_tellsFormula ∈ TT := tt_t (tm3 (List.mem_of_getElem? (i := 187) rfl)) rfl
theorem mw_X10_tellsFormula : MW yX10_tellsFormula cX10_tellsFormula 1 1 (some .boolean) := ⟨tt_t (tm3 (List.mem_of_getElem? (i := 188) rfl)) rfl, ini_X10, ⟨by decide, by decide⟩, by decide +kernel, by decide⟩
theorem ml_X10_158 : Cond.methodLink RX10 158 yX3_arrange ∈ TT := tt_t (tm3 (List.mem_of_getElem? (i := 189) rfl)) rfl
theorem im_X3_arrange : Cond.instanceMethod yX3_arrange ∈ TT := tt_t (tm3 (List.mem_of_getElem? (i := 190) rfl)) rfl
theorem se_X3_arrange : Cond.selects RX3 yX3_arrange yX3_arrange ∈ TT := tt_t (tm3 (List.mem_of_getElem? (i := 191) rfl)) rfl
theorem mw_X3_arrange : MW yX3_arrange cX3_arrange 5 1 none := ⟨tt_t (tm3 (List.mem_of_getElem? (i := 192) rfl)) rfl, ini_X3, ⟨by decide, by decide⟩, by decide +kernel, by decide⟩
theorem ml_X3_58 : Cond.methodLink RX3 58 yX9_opAt ∈ TT := tt_t (tm3 (List.mem_of_getElem? (i := 193) rfl)) rfl
theorem im_X9_opAt : Cond.instanceMethod yX9_opAt ∈ TT := tt_t (tm3 (List.mem_of_getElem? (i := 194) rfl)) rfl
theorem se_X9_opAt : Cond.selects RX9 yX9_opAt yX9_opAt ∈ TT := tt_t (tm3 (List.mem_of_getElem? (i := 195) rfl)) rfl
theorem mw_X9_opAt : MW yX9_opAt cX9_opAt 2 1 (some .int) := ⟨tt_t (tm3 (List.mem_of_getElem? (i := 196) rfl)) rfl, ini_X9, ⟨by decide, by decide⟩, by decide +kernel, by decide⟩
theorem mn_X3_62 : Cond.methodLinkNest RX3 62 yX10_arity "ProofTrim" ∈ NW := nw_t (tm3 (List.mem_of_getElem? (i := 197) rfl)) rfl
theorem ml_X3_65 : Cond.methodLink RX3 65 yX3_endOf ∈ TT := tt_t (tm3 (List.mem_of_getElem? (i := 198) rfl)) rfl
theorem im_X3_endOf : Cond.instanceMethod yX3_endOf ∈ TT := tt_t (tm3 (List.mem_of_getElem? (i := 199) rfl)) rfl
theorem se_X3_endOf : Cond.selects RX3 yX3_endOf yX3_endOf ∈ TT := tt_t (tm3 (List.mem_of_getElem? (i := 200) rfl)) rfl
theorem mw_X3_endOf : MW yX3_endOf cX3_endOf 2 1 (some .int) := ⟨tt_t (tm3 (List.mem_of_getElem? (i := 201) rfl)) rfl, ini_X3, ⟨by decide, by decide⟩, by decide +kernel, by decide⟩
theorem ml_X3_71 : Cond.methodLink RX3 71 yX3_placeChildren ∈ TT := tt_t (tm3 (List.mem_of_getElem? (i := 202) rfl)) rfl
theorem im_X3_placeChildren : Cond.instanceMethod yX3_placeChildren ∈ TT := tt_t (tm3 (List.mem_of_getElem? (i := 204) rfl)) rfl
theorem mw_X3_placeChildren : MW yX3_placeChildren cX3_placeChildren 5 1 none := ⟨tt_t (tm3 (List.mem_of_getElem? (i := 205) rfl)) rfl, ini_X3, ⟨by decide, by decide⟩, by decide +kernel, by decide⟩
theorem ml_X3_81 : Cond.methodLink RX3 81 yX3_nestOf ∈ TT := tt_t (tm3 (List.mem_of_getElem? (i := 206) rfl)) rfl
theorem im_X3_nestOf : Cond.instanceMethod yX3_nestOf ∈ TT := tt_t (tm3 (List.mem_of_getElem? (i := 208) rfl)) rfl
theorem mw_X3_nestOf : MW yX3_nestOf cX3_nestOf 2 1 (some .int) := ⟨tt_t (tm3 (List.mem_of_getElem? (i := 209) rfl)) rfl, ini_X3, ⟨by decide, by decide⟩, by decide +kernel, by decide⟩
theorem ml_X3_84 : Cond.methodLink RX3 84 yX3_depthOf ∈ TT := tt_t (tm3 (List.mem_of_getElem? (i := 210) rfl)) rfl
theorem im_X3_depthOf : Cond.instanceMethod yX3_depthOf ∈ TT := tt_t (tm3 (List.mem_of_getElem? (i := 211) rfl)) rfl
theorem se_X3_depthOf : Cond.selects RX3 yX3_depthOf yX3_depthOf ∈ TT := tt_t (tm3 (List.mem_of_getElem? (i := 212) rfl)) rfl
theorem mw_X3_depthOf : MW yX3_depthOf cX3_depthOf 2 1 (some .int) := ⟨tt_t (tm3 (List.mem_of_getElem? (i := 213) rfl)) rfl, ini_X3, ⟨by decide, by decide⟩, by decide +kernel, by decide⟩
theorem ml_X3_87 : Cond.methodLink RX3 87 yX3_isArm ∈ TT := tt_t (tm3 (List.mem_of_getElem? (i := 214) rfl)) rfl
theorem im_X3_isArm : Cond.instanceMethod yX3_isArm ∈ TT := tt_t (tm3 (List.mem_of_getElem? (i := 215) rfl)) rfl
theorem se_X3_isArm : Cond.selects RX3 yX3_isArm yX3_isArm ∈ TT := tt_t (tm3 (List.mem_of_getElem? (i := 216) rfl)) rfl
theorem mw_X3_isArm : MW yX3_isArm cX3_isArm 3 1 (some .boolean) := ⟨tt_t (tm3 (List.mem_of_getElem? (i := 217) rfl)) rfl, ini_X3, ⟨by decide, by decide⟩, by decide +kernel, by decide⟩
theorem ml_X3_101 : Cond.methodLink RX3 101 yX3_parentOf ∈ TT := tt_t (tm3 (List.mem_of_getElem? (i := 218) rfl)) rfl
theorem im_X3_parentOf : Cond.instanceMethod yX3_parentOf ∈ TT := tt_t (tm3 (List.mem_of_getElem? (i := 219) rfl)) rfl
theorem se_X3_parentOf : Cond.selects RX3 yX3_parentOf yX3_parentOf ∈ TT := tt_t (tm3 (List.mem_of_getElem? (i := 220) rfl)) rfl
theorem mw_X3_parentOf : MW yX3_parentOf cX3_parentOf 2 1 (some .int) := ⟨tt_t (tm3 (List.mem_of_getElem? (i := 221) rfl)) rfl, ini_X3, ⟨by decide, by decide⟩, by decide +kernel, by decide⟩
theorem ml_X3_104 : Cond.methodLink RX3 104 yX3_rankOf ∈ TT := tt_t (tm3 (List.mem_of_getElem? (i := 222) rfl)) rfl
theorem im_X3_rankOf : Cond.instanceMethod yX3_rankOf ∈ TT := tt_t (tm3 (List.mem_of_getElem? (i := 223) rfl)) rfl
theorem se_X3_rankOf : Cond.selects RX3 yX3_rankOf yX3_rankOf ∈ TT := tt_t (tm3 (List.mem_of_getElem? (i := 224) rfl)) rfl
theorem mw_X3_rankOf : MW yX3_rankOf cX3_rankOf 2 1 (some .int) := ⟨tt_t (tm3 (List.mem_of_getElem? (i := 225) rfl)) rfl, ini_X3, ⟨by decide, by decide⟩, by decide +kernel, by decide⟩
theorem ml_X3_75 : Cond.methodLink RX3 75 yX3_bind ∈ TT := tt_t (tm3 (List.mem_of_getElem? (i := 226) rfl)) rfl
theorem im_X3_bind : Cond.instanceMethod yX3_bind ∈ TT := tt_t (tm3 (List.mem_of_getElem? (i := 228) rfl)) rfl
theorem mw_X3_bind : MW yX3_bind cX3_bind 3 1 none := ⟨tt_t (tm3 (List.mem_of_getElem? (i := 229) rfl)) rfl, ini_X3, ⟨by decide, by decide⟩, by decide +kernel, by decide⟩
theorem ml_X3_91 : Cond.methodLink RX3 91 yX3_addToWalk ∈ TT := tt_t (tm3 (List.mem_of_getElem? (i := 230) rfl)) rfl
theorem im_X3_addToWalk : Cond.instanceMethod yX3_addToWalk ∈ TT := tt_t (tm3 (List.mem_of_getElem? (i := 232) rfl)) rfl
theorem mw_X3_addToWalk : MW yX3_addToWalk cX3_addToWalk 2 1 none := ⟨tt_t (tm3 (List.mem_of_getElem? (i := 233) rfl)) rfl, ini_X3, ⟨by decide, by decide⟩, by decide +kernel, by decide⟩
theorem ml_X3_94 : Cond.methodLink RX3 94 yX9_argAt ∈ TT := tt_t (tm3 (List.mem_of_getElem? (i := 234) rfl)) rfl
theorem im_X9_argAt : Cond.instanceMethod yX9_argAt ∈ TT := tt_t (tm3 (List.mem_of_getElem? (i := 235) rfl)) rfl
theorem se_X9_argAt : Cond.selects RX9 yX9_argAt yX9_argAt ∈ TT := tt_t (tm3 (List.mem_of_getElem? (i := 236) rfl)) rfl
theorem mw_X9_argAt : MW yX9_argAt cX9_argAt 2 1 (some .int) := ⟨tt_t (tm3 (List.mem_of_getElem? (i := 237) rfl)) rfl, ini_X9, ⟨by decide, by decide⟩, by decide +kernel, by decide⟩
theorem mn_X3_97 : Cond.methodLinkNest RX3 97 yX10_at "ProofTrim" ∈ NW := nw_t (tm3 (List.mem_of_getElem? (i := 238) rfl)) rfl
theorem ml_X3_78 : Cond.methodLink RX3 78 yX3_walkOut ∈ TT := tt_t (tm3 (List.mem_of_getElem? (i := 239) rfl)) rfl
theorem im_X3_walkOut : Cond.instanceMethod yX3_walkOut ∈ TT := tt_t (tm4 (List.mem_of_getElem? (i := 1) rfl)) rfl
theorem mw_X3_walkOut : MW yX3_walkOut cX3_walkOut 5 1 none := ⟨tt_t (tm4 (List.mem_of_getElem? (i := 2) rfl)) rfl, ini_X3, ⟨by decide, by decide⟩, by decide +kernel, by decide⟩
theorem ml_X10_162 : Cond.methodLink RX10 162 yX3_ask ∈ TT := tt_t (tm4 (List.mem_of_getElem? (i := 3) rfl)) rfl
theorem im_X3_ask : Cond.instanceMethod yX3_ask ∈ TT := tt_t (tm4 (List.mem_of_getElem? (i := 4) rfl)) rfl
theorem se_X3_ask : Cond.selects RX3 yX3_ask yX3_ask ∈ TT := tt_t (tm4 (List.mem_of_getElem? (i := 5) rfl)) rfl
theorem mw_X3_ask : MW yX3_ask cX3_ask 5 0 (some .int) := ⟨tt_t (tm4 (List.mem_of_getElem? (i := 6) rfl)) rfl, ini_X3, ⟨by decide, by decide⟩, by decide +kernel, by decide⟩
theorem ml_X3_124 : Cond.methodLink RX3 124 yX3_stop ∈ TT := tt_t (tm4 (List.mem_of_getElem? (i := 7) rfl)) rfl
theorem im_X3_stop : Cond.instanceMethod yX3_stop ∈ TT := tt_t (tm4 (List.mem_of_getElem? (i := 8) rfl)) rfl
theorem se_X3_stop : Cond.selects RX3 yX3_stop yX3_stop ∈ TT := tt_t (tm4 (List.mem_of_getElem? (i := 9) rfl)) rfl
theorem mw_X3_stop : MW yX3_stop cX3_stop 2 1 (some .int) := ⟨tt_t (tm4 (List.mem_of_getElem? (i := 10) rfl)) rfl, ini_X3, ⟨by decide, by decide⟩, by decide +kernel, by decide⟩
theorem ml_X3_127 : Cond.methodLink RX3 127 yX3_unfitWithin ∈ TT := tt_t (tm4 (List.mem_of_getElem? (i := 11) rfl)) rfl
theorem im_X3_unfitWithin : Cond.instanceMethod yX3_unfitWithin ∈ TT := tt_t (tm4 (List.mem_of_getElem? (i := 13) rfl)) rfl
theorem mw_X3_unfitWithin : MW yX3_unfitWithin cX3_unfitWithin 6 1 (some .int) := ⟨tt_t (tm4 (List.mem_of_getElem? (i := 14) rfl)) rfl, ini_X3, ⟨by decide, by decide⟩, by decide +kernel, by decide⟩
theorem ml_X3_113 : Cond.methodLink RX3 113 yX3_typeOf ∈ TT := tt_t (tm4 (List.mem_of_getElem? (i := 15) rfl)) rfl
theorem im_X3_typeOf : Cond.instanceMethod yX3_typeOf ∈ TT := tt_t (tm4 (List.mem_of_getElem? (i := 16) rfl)) rfl
theorem se_X3_typeOf : Cond.selects RX3 yX3_typeOf yX3_typeOf ∈ TT := tt_t (tm4 (List.mem_of_getElem? (i := 17) rfl)) rfl
theorem mw_X3_typeOf : MW yX3_typeOf cX3_typeOf 2 1 (some .int) := ⟨tt_t (tm4 (List.mem_of_getElem? (i := 18) rfl)) rfl, ini_X3, ⟨by decide, by decide⟩, by decide +kernel, by decide⟩
theorem ml_X3_133 : Cond.methodLink RX3 133 yX1_kindOf ∈ TT := tt_t (tm4 (List.mem_of_getElem? (i := 19) rfl)) rfl
theorem im_X1_kindOf : Cond.instanceMethod yX1_kindOf ∈ TT := tt_t (tm4 (List.mem_of_getElem? (i := 20) rfl)) rfl
theorem se_X1_kindOf : Cond.selects RX1 yX1_kindOf yX1_kindOf ∈ TT := tt_t (tm4 (List.mem_of_getElem? (i := 21) rfl)) rfl
theorem mw_X1_kindOf : MW yX1_kindOf cX1_kindOf 2 1 (some .int) := ⟨tt_t (tm4 (List.mem_of_getElem? (i := 22) rfl)) rfl, ini_X1, ⟨by decide, by decide⟩, by decide +kernel, by decide⟩
theorem ml_X3_116 : Cond.methodLink RX3 116 yX1_leftOf ∈ TT := tt_t (tm4 (List.mem_of_getElem? (i := 23) rfl)) rfl
theorem im_X1_leftOf : Cond.instanceMethod yX1_leftOf ∈ TT := tt_t (tm4 (List.mem_of_getElem? (i := 24) rfl)) rfl
theorem se_X1_leftOf : Cond.selects RX1 yX1_leftOf yX1_leftOf ∈ TT := tt_t (tm4 (List.mem_of_getElem? (i := 25) rfl)) rfl
theorem mw_X1_leftOf : MW yX1_leftOf cX1_leftOf 2 1 (some .int) := ⟨tt_t (tm4 (List.mem_of_getElem? (i := 26) rfl)) rfl, ini_X1, ⟨by decide, by decide⟩, by decide +kernel, by decide⟩
theorem ml_X3_130 : Cond.methodLink RX3 130 yX3_provenBy ∈ TT := tt_t (tm4 (List.mem_of_getElem? (i := 27) rfl)) rfl
theorem im_X3_provenBy : Cond.instanceMethod yX3_provenBy ∈ TT := tt_t (tm4 (List.mem_of_getElem? (i := 29) rfl)) rfl
theorem mw_X3_provenBy : MW yX3_provenBy cX3_provenBy 5 1 (some .int) := ⟨tt_t (tm4 (List.mem_of_getElem? (i := 30) rfl)) rfl, ini_X3, ⟨by decide, by decide⟩, by decide +kernel, by decide⟩
theorem ml_X3_136 : Cond.methodLink RX3 136 yX1_make ∈ TT := tt_t (tm4 (List.mem_of_getElem? (i := 31) rfl)) rfl
theorem ml_X3_121 : Cond.methodLink RX3 121 yX1_rightOf ∈ TT := tt_t (tm4 (List.mem_of_getElem? (i := 32) rfl)) rfl
theorem im_X1_rightOf : Cond.instanceMethod yX1_rightOf ∈ TT := tt_t (tm4 (List.mem_of_getElem? (i := 33) rfl)) rfl
theorem se_X1_rightOf : Cond.selects RX1 yX1_rightOf yX1_rightOf ∈ TT := tt_t (tm4 (List.mem_of_getElem? (i := 34) rfl)) rfl
theorem mw_X1_rightOf : MW yX1_rightOf cX1_rightOf 2 1 (some .int) := ⟨tt_t (tm4 (List.mem_of_getElem? (i := 35) rfl)) rfl, ini_X1, ⟨by decide, by decide⟩, by decide +kernel, by decide⟩
theorem ml_X3_140 : Cond.methodLink RX3 140 yX2_formulaOf ∈ TT := tt_t (tm4 (List.mem_of_getElem? (i := 36) rfl)) rfl
theorem im_X2_formulaOf : Cond.instanceMethod yX2_formulaOf ∈ TT := tt_t (tm4 (List.mem_of_getElem? (i := 37) rfl)) rfl
theorem se_X2_formulaOf : Cond.selects RX2 yX2_formulaOf yX2_formulaOf ∈ TT := tt_t (tm4 (List.mem_of_getElem? (i := 38) rfl)) rfl
theorem mw_X2_formulaOf : MW yX2_formulaOf cX2_formulaOf 2 1 (some .int) := ⟨tt_t (tm4 (List.mem_of_getElem? (i := 39) rfl)) rfl, ini_X2, ⟨by decide, by decide⟩, by decide +kernel, by decide⟩
theorem ml_X3_145 : Cond.methodLink RX3 145 yX3_takenOn ∈ TT := tt_t (tm4 (List.mem_of_getElem? (i := 40) rfl)) rfl
theorem im_X3_takenOn : Cond.instanceMethod yX3_takenOn ∈ TT := tt_t (tm4 (List.mem_of_getElem? (i := 41) rfl)) rfl
theorem se_X3_takenOn : Cond.selects RX3 yX3_takenOn yX3_takenOn ∈ TT := tt_t (tm4 (List.mem_of_getElem? (i := 42) rfl)) rfl
theorem mw_X3_takenOn : MW yX3_takenOn cX3_takenOn 4 1 (some .int) := ⟨tt_t (tm4 (List.mem_of_getElem? (i := 43) rfl)) rfl, ini_X3, ⟨by decide, by decide⟩, by decide +kernel, by decide⟩
theorem ml_X10_166 : Cond.methodLink RX10 166 yX6_blameTerm ∈ TT := tt_t (tm4 (List.mem_of_getElem? (i := 44) rfl)) rfl
theorem im_X6_blameTerm : Cond.instanceMethod yX6_blameTerm ∈ TT := tt_t (tm4 (List.mem_of_getElem? (i := 45) rfl)) rfl
theorem se_X6_blameTerm : Cond.selects RX6 yX6_blameTerm yX6_blameTerm ∈ TT := tt_t (tm4 (List.mem_of_getElem? (i := 46) rfl)) rfl
theorem mw_X6_blameTerm : MW yX6_blameTerm cX6_blameTerm 2 1 none := ⟨tt_t (tm4 (List.mem_of_getElem? (i := 47) rfl)) rfl, ini_X6, ⟨by decide, by decide⟩, by decide +kernel, by decide⟩
theorem ml_X10_169 : Cond.methodLink RX10 169 yX9_takeOver ∈ TT := tt_t (tm4 (List.mem_of_getElem? (i := 48) rfl)) rfl
theorem im_X9_takeOver : Cond.instanceMethod yX9_takeOver ∈ TT := tt_t (tm4 (List.mem_of_getElem? (i := 49) rfl)) rfl
theorem se_X9_takeOver : Cond.selects RX9 yX9_takeOver yX9_takeOver ∈ TT := tt_t (tm4 (List.mem_of_getElem? (i := 50) rfl)) rfl
theorem mw_X9_takeOver : MW yX9_takeOver cX9_takeOver 2 1 none := ⟨tt_t (tm4 (List.mem_of_getElem? (i := 51) rfl)) rfl, ini_X9, ⟨by decide, by decide⟩, by decide +kernel, by decide⟩
theorem ml_L_32 : Cond.methodLink RL 32 yX10_fault ∈ TT := tt_t (tm4 (List.mem_of_getElem? (i := 55) rfl)) rfl
theorem im_X10_fault : Cond.instanceMethod yX10_fault ∈ TT := tt_t (tm4 (List.mem_of_getElem? (i := 56) rfl)) rfl
theorem se_X10_fault : Cond.selects RX10 yX10_fault yX10_fault ∈ TT := tt_t (tm4 (List.mem_of_getElem? (i := 57) rfl)) rfl
theorem mw_X10_fault : MW yX10_fault cX10_fault 2 1 (some .int) := ⟨tt_t (tm4 (List.mem_of_getElem? (i := 58) rfl)) rfl, ini_X10, ⟨by decide, by decide⟩, by decide +kernel, by decide⟩
theorem ml_L_36 : Cond.methodLink RL 36 yX10_drop ∈ TT := tt_t (tm4 (List.mem_of_getElem? (i := 59) rfl)) rfl
theorem im_X10_drop : Cond.instanceMethod yX10_drop ∈ TT := tt_t (tm4 (List.mem_of_getElem? (i := 60) rfl)) rfl
theorem se_X10_drop : Cond.selects RX10 yX10_drop yX10_drop ∈ TT := tt_t (tm4 (List.mem_of_getElem? (i := 61) rfl)) rfl
theorem mw_X10_drop : MW yX10_drop cX10_drop 3 1 (some .int) := ⟨tt_t (tm4 (List.mem_of_getElem? (i := 62) rfl)) rfl, ini_X10, ⟨by decide, by decide⟩, by decide +kernel, by decide⟩
theorem ml_L_40 : Cond.methodLink RL 40 yX10_count ∈ TT := tt_t (tm4 (List.mem_of_getElem? (i := 63) rfl)) rfl
theorem im_X10_count : Cond.instanceMethod yX10_count ∈ TT := tt_t (tm4 (List.mem_of_getElem? (i := 64) rfl)) rfl
theorem se_X10_count : Cond.selects RX10 yX10_count yX10_count ∈ TT := tt_t (tm4 (List.mem_of_getElem? (i := 65) rfl)) rfl
theorem mw_X10_count : MW yX10_count cX10_count 2 1 (some .int) := ⟨tt_t (tm4 (List.mem_of_getElem? (i := 66) rfl)) rfl, ini_X10, ⟨by decide, by decide⟩, by decide +kernel, by decide⟩
theorem ml_X10_177 : Cond.methodLink RX10 177 yX10_fullSlots ∈ TT := tt_t (tm4 (List.mem_of_getElem? (i := 67) rfl)) rfl
theorem im_X10_fullSlots : Cond.instanceMethod yX10_fullSlots ∈ TT := tt_t (tm4 (List.mem_of_getElem? (i := 69) rfl)) rfl
theorem mw_X10_fullSlots : MW yX10_fullSlots cX10_fullSlots 3 0 (some .int) := ⟨tt_t (tm4 (List.mem_of_getElem? (i := 70) rfl)) rfl, ini_X10, ⟨by decide, by decide⟩, by decide +kernel, by decide⟩
theorem ml_L_44 : Cond.methodLink RL 44 yX10_hypothesis ∈ TT := tt_t (tm4 (List.mem_of_getElem? (i := 71) rfl)) rfl
theorem im_X10_hypothesis : Cond.instanceMethod yX10_hypothesis ∈ TT := tt_t (tm4 (List.mem_of_getElem? (i := 72) rfl)) rfl
theorem se_X10_hypothesis : Cond.selects RX10 yX10_hypothesis yX10_hypothesis ∈ TT := tt_t (tm4 (List.mem_of_getElem? (i := 73) rfl)) rfl
theorem mw_X10_hypothesis : MW yX10_hypothesis cX10_hypothesis 4 3 (some .int) := ⟨tt_t (tm4 (List.mem_of_getElem? (i := 74) rfl)) rfl, ini_X10, ⟨by decide, by decide⟩, by decide +kernel, by decide⟩
theorem ml_X10_183 : Cond.methodLink RX10 183 yX2_nameOf ∈ TT := tt_t (tm4 (List.mem_of_getElem? (i := 75) rfl)) rfl
theorem im_X2_nameOf : Cond.instanceMethod yX2_nameOf ∈ TT := tt_t (tm4 (List.mem_of_getElem? (i := 76) rfl)) rfl
theorem se_X2_nameOf : Cond.selects RX2 yX2_nameOf yX2_nameOf ∈ TT := tt_t (tm4 (List.mem_of_getElem? (i := 77) rfl)) rfl
theorem mw_X2_nameOf : MW yX2_nameOf cX2_nameOf 2 1 (some .int) := ⟨tt_t (tm4 (List.mem_of_getElem? (i := 78) rfl)) rfl, ini_X2, ⟨by decide, by decide⟩, by decide +kernel, by decide⟩
theorem ml_X10_186 : Cond.methodLink RX10 186 yX10_nameLetter ∈ TT := tt_t (tm4 (List.mem_of_getElem? (i := 79) rfl)) rfl
theorem ml_X10_190 : Cond.methodLink RX10 190 yX2_formulaOf ∈ TT := tt_t (tm4 (List.mem_of_getElem? (i := 80) rfl)) rfl
theorem ml_X10_193 : Cond.methodLink RX10 193 yX1_byteAt ∈ TT := tt_t (tm4 (List.mem_of_getElem? (i := 81) rfl)) rfl
theorem im_X1_byteAt : Cond.instanceMethod yX1_byteAt ∈ TT := tt_t (tm4 (List.mem_of_getElem? (i := 82) rfl)) rfl
theorem se_X1_byteAt : Cond.selects RX1 yX1_byteAt yX1_byteAt ∈ TT := tt_t (tm4 (List.mem_of_getElem? (i := 83) rfl)) rfl
theorem mw_X1_byteAt : MW yX1_byteAt cX1_byteAt 12 2 (some .int) := ⟨tt_t (tm4 (List.mem_of_getElem? (i := 84) rfl)) rfl, ini_X1, ⟨by decide, by decide⟩, by decide +kernel, by decide⟩
theorem ml_X1_46 : Cond.methodLink RX1 46 yX1_kindOf ∈ TT := tt_t (tm4 (List.mem_of_getElem? (i := 85) rfl)) rfl
theorem mn_X1_49 : Cond.methodLinkNest RX1 49 yX10_wordLetter "ProofTrim" ∈ NW := nw_t (tm4 (List.mem_of_getElem? (i := 86) rfl)) rfl
theorem ml_X1_53 : Cond.methodLink RX1 53 yX1_leftOf ∈ TT := tt_t (tm4 (List.mem_of_getElem? (i := 87) rfl)) rfl
theorem ml_X1_56 : Cond.methodLink RX1 56 yX1_rightOf ∈ TT := tt_t (tm4 (List.mem_of_getElem? (i := 88) rfl)) rfl
theorem ml_L_49 : Cond.methodLink RL 49 yX10_goalByte ∈ TT := tt_t (tm4 (List.mem_of_getElem? (i := 89) rfl)) rfl
theorem im_X10_goalByte : Cond.instanceMethod yX10_goalByte ∈ TT := tt_t (tm4 (List.mem_of_getElem? (i := 90) rfl)) rfl
theorem se_X10_goalByte : Cond.selects RX10 yX10_goalByte yX10_goalByte ∈ TT := tt_t (tm4 (List.mem_of_getElem? (i := 91) rfl)) rfl
theorem mw_X10_goalByte : MW yX10_goalByte cX10_goalByte 2 1 (some .int) := ⟨tt_t (tm4 (List.mem_of_getElem? (i := 92) rfl)) rfl, ini_X10, ⟨by decide, by decide⟩, by decide +kernel, by decide⟩
theorem ml_L_53 : Cond.methodLink RL 53 yX10_spell ∈ TT := tt_t (tm4 (List.mem_of_getElem? (i := 93) rfl)) rfl
theorem im_X10_spell : Cond.instanceMethod yX10_spell ∈ TT := tt_t (tm4 (List.mem_of_getElem? (i := 94) rfl)) rfl
theorem se_X10_spell : Cond.selects RX10 yX10_spell yX10_spell ∈ TT := tt_t (tm4 (List.mem_of_getElem? (i := 95) rfl)) rfl
theorem mw_X10_spell : MW yX10_spell cX10_spell 4 3 (some .int) := ⟨tt_t (tm4 (List.mem_of_getElem? (i := 96) rfl)) rfl, ini_X10, ⟨by decide, by decide⟩, by decide +kernel, by decide⟩
theorem ml_X10_197 : Cond.methodLink RX10 197 yX10_spellSlot ∈ TT := tt_t (tm4 (List.mem_of_getElem? (i := 97) rfl)) rfl
theorem im_X10_spellSlot : Cond.instanceMethod yX10_spellSlot ∈ TT := tt_t (tm4 (List.mem_of_getElem? (i := 99) rfl)) rfl
theorem mw_X10_spellSlot : MW yX10_spellSlot cX10_spellSlot 4 3 none := ⟨tt_t (tm4 (List.mem_of_getElem? (i := 100) rfl)) rfl, ini_X10, ⟨by decide, by decide⟩, by decide +kernel, by decide⟩
theorem ml_X10_216 : Cond.methodLink RX10 216 yX8_begin ∈ TT := tt_t (tm4 (List.mem_of_getElem? (i := 101) rfl)) rfl
theorem im_X8_begin : Cond.instanceMethod yX8_begin ∈ TT := tt_t (tm4 (List.mem_of_getElem? (i := 102) rfl)) rfl
theorem se_X8_begin : Cond.selects RX8 yX8_begin yX8_begin ∈ TT := tt_t (tm4 (List.mem_of_getElem? (i := 103) rfl)) rfl
theorem mw_X8_begin : MW yX8_begin cX8_begin 3 1 none := ⟨tt_t (tm4 (List.mem_of_getElem? (i := 104) rfl)) rfl, ini_X8, ⟨by decide, by decide⟩, by decide +kernel, by decide⟩
theorem ml_X10_220 : Cond.methodLink RX10 220 yX3_typeOf ∈ TT := tt_t (tm4 (List.mem_of_getElem? (i := 105) rfl)) rfl
theorem ml_X10_223 : Cond.methodLink RX10 223 yX8_putFormula ∈ TT := tt_t (tm4 (List.mem_of_getElem? (i := 106) rfl)) rfl
theorem im_X8_putFormula : Cond.instanceMethod yX8_putFormula ∈ TT := tt_t (tm4 (List.mem_of_getElem? (i := 107) rfl)) rfl
theorem se_X8_putFormula : Cond.selects RX8 yX8_putFormula yX8_putFormula ∈ TT := tt_t (tm4 (List.mem_of_getElem? (i := 108) rfl)) rfl
theorem mw_X8_putFormula : MW yX8_putFormula cX8_putFormula 4 1 none := ⟨tt_t (tm4 (List.mem_of_getElem? (i := 109) rfl)) rfl, ini_X8, ⟨by decide, by decide⟩, by decide +kernel, by decide⟩
theorem ml_X8_30 : Cond.methodLink RX8 30 yX8_putBlank ∈ TT := tt_t (tm4 (List.mem_of_getElem? (i := 110) rfl)) rfl
theorem im_X8_putBlank : Cond.instanceMethod yX8_putBlank ∈ TT := tt_t (tm4 (List.mem_of_getElem? (i := 112) rfl)) rfl
theorem mw_X8_putBlank : MW yX8_putBlank cX8_putBlank 1 0 none := ⟨tt_t (tm4 (List.mem_of_getElem? (i := 113) rfl)) rfl, ini_X8, ⟨by decide, by decide⟩, by decide +kernel, by decide⟩
theorem ml_X8_45 : Cond.methodLink RX8 45 yX1_bytesOf ∈ TT := tt_t (tm4 (List.mem_of_getElem? (i := 114) rfl)) rfl
theorem ml_X8_37 : Cond.methodLink RX8 37 yX8_wantsWithin ∈ TT := tt_t (tm4 (List.mem_of_getElem? (i := 115) rfl)) rfl
theorem im_X8_wantsWithin : Cond.instanceMethod yX8_wantsWithin ∈ TT := tt_t (tm4 (List.mem_of_getElem? (i := 117) rfl)) rfl
theorem mw_X8_wantsWithin : MW yX8_wantsWithin cX8_wantsWithin 3 1 (some .boolean) := ⟨tt_t (tm4 (List.mem_of_getElem? (i := 118) rfl)) rfl, ini_X8, ⟨by decide, by decide⟩, by decide +kernel, by decide⟩
theorem ml_X8_51 : Cond.methodLink RX8 51 yX1_byteAt ∈ TT := tt_t (tm4 (List.mem_of_getElem? (i := 119) rfl)) rfl
theorem ml_X10_226 : Cond.methodLink RX10 226 yX8_putTerm ∈ TT := tt_t (tm4 (List.mem_of_getElem? (i := 120) rfl)) rfl
theorem im_X8_putTerm : Cond.instanceMethod yX8_putTerm ∈ TT := tt_t (tm4 (List.mem_of_getElem? (i := 121) rfl)) rfl
theorem se_X8_putTerm : Cond.selects RX8 yX8_putTerm yX8_putTerm ∈ TT := tt_t (tm4 (List.mem_of_getElem? (i := 122) rfl)) rfl
theorem mw_X8_putTerm : MW yX8_putTerm cX8_putTerm 7 2 none := ⟨tt_t (tm4 (List.mem_of_getElem? (i := 123) rfl)) rfl, ini_X8, ⟨by decide, by decide⟩, by decide +kernel, by decide⟩
theorem ml_X8_77 : Cond.methodLink RX8 77 yX9_opAt ∈ TT := tt_t (tm4 (List.mem_of_getElem? (i := 124) rfl)) rfl
theorem ml_X8_80 : Cond.methodLink RX8 80 yX9_argAt ∈ TT := tt_t (tm4 (List.mem_of_getElem? (i := 125) rfl)) rfl
theorem ml_X8_83 : Cond.methodLink RX8 83 yX3_isArm ∈ TT := tt_t (tm4 (List.mem_of_getElem? (i := 126) rfl)) rfl
theorem ml_X8_87 : Cond.methodLink RX8 87 yX3_parentOf ∈ TT := tt_t (tm4 (List.mem_of_getElem? (i := 127) rfl)) rfl
theorem ml_X8_90 : Cond.methodLink RX8 90 yX3_depthOf ∈ TT := tt_t (tm4 (List.mem_of_getElem? (i := 128) rfl)) rfl
theorem ml_X8_93 : Cond.methodLink RX8 93 yX8_putLevel ∈ TT := tt_t (tm4 (List.mem_of_getElem? (i := 129) rfl)) rfl
theorem im_X8_putLevel : Cond.instanceMethod yX8_putLevel ∈ TT := tt_t (tm4 (List.mem_of_getElem? (i := 131) rfl)) rfl
theorem mw_X8_putLevel : MW yX8_putLevel cX8_putLevel 3 1 none := ⟨tt_t (tm4 (List.mem_of_getElem? (i := 132) rfl)) rfl, ini_X8, ⟨by decide, by decide⟩, by decide +kernel, by decide⟩
theorem co_X8_61 : Cond.constant RX8 61 (2013265920) ∈ TT := tt_t (tm4 (List.mem_of_getElem? (i := 133) rfl)) rfl
theorem ml_X8_62 : Cond.methodLink RX8 62 yX8_putName ∈ TT := tt_t (tm4 (List.mem_of_getElem? (i := 134) rfl)) rfl
theorem im_X8_putName : Cond.instanceMethod yX8_putName ∈ TT := tt_t (tm4 (List.mem_of_getElem? (i := 136) rfl)) rfl
theorem mw_X8_putName : MW yX8_putName cX8_putName 3 1 none := ⟨tt_t (tm4 (List.mem_of_getElem? (i := 137) rfl)) rfl, ini_X8, ⟨by decide, by decide⟩, by decide +kernel, by decide⟩
theorem mn_X8_55 : Cond.methodLinkNest RX8 55 yX10_nameLength "ProofTrim" ∈ NW := nw_t (tm4 (List.mem_of_getElem? (i := 138) rfl)) rfl
theorem sm_X10_nameLength : Cond.static yX10_nameLength ∈ TT := tt_t (tm4 (List.mem_of_getElem? (i := 139) rfl)) rfl
theorem mw_X10_nameLength : MW yX10_nameLength cX10_nameLength 3 1 (some .int) := ⟨tt_t (tm4 (List.mem_of_getElem? (i := 140) rfl)) rfl, ini_X10, ⟨by decide, by decide⟩, by decide +kernel, by decide⟩
theorem mn_X8_58 : Cond.methodLinkNest RX8 58 yX10_nameLetter "ProofTrim" ∈ NW := nw_t (tm4 (List.mem_of_getElem? (i := 141) rfl)) rfl
theorem ml_X8_96 : Cond.methodLink RX8 96 yX8_putMeaning ∈ TT := tt_t (tm4 (List.mem_of_getElem? (i := 142) rfl)) rfl
theorem im_X8_putMeaning : Cond.instanceMethod yX8_putMeaning ∈ TT := tt_t (tm4 (List.mem_of_getElem? (i := 144) rfl)) rfl
theorem mw_X8_putMeaning : MW yX8_putMeaning cX8_putMeaning 2 1 none := ⟨tt_t (tm4 (List.mem_of_getElem? (i := 145) rfl)) rfl, ini_X8, ⟨by decide, by decide⟩, by decide +kernel, by decide⟩
theorem ml_X8_108 : Cond.methodLink RX8 108 yX2_nameOf ∈ TT := tt_t (tm4 (List.mem_of_getElem? (i := 146) rfl)) rfl
theorem ml_X8_99 : Cond.methodLink RX8 99 yX8_putWord ∈ TT := tt_t (tm4 (List.mem_of_getElem? (i := 147) rfl)) rfl
theorem im_X8_putWord : Cond.instanceMethod yX8_putWord ∈ TT := tt_t (tm4 (List.mem_of_getElem? (i := 149) rfl)) rfl
theorem mw_X8_putWord : MW yX8_putWord cX8_putWord 3 1 none := ⟨tt_t (tm4 (List.mem_of_getElem? (i := 150) rfl)) rfl, ini_X8, ⟨by decide, by decide⟩, by decide +kernel, by decide⟩
theorem mn_X8_33 : Cond.methodLinkNest RX8 33 yX10_wordLength "ProofTrim" ∈ NW := nw_t (tm4 (List.mem_of_getElem? (i := 151) rfl)) rfl
theorem mn_X8_41 : Cond.methodLinkNest RX8 41 yX10_wordLetter "ProofTrim" ∈ NW := nw_t (tm4 (List.mem_of_getElem? (i := 152) rfl)) rfl
theorem mn_X8_102 : Cond.methodLinkNest RX8 102 yX10_tellsFormula "ProofTrim" ∈ NW := nw_t (tm4 (List.mem_of_getElem? (i := 153) rfl)) rfl
theorem ml_X8_105 : Cond.methodLink RX8 105 yX8_putFormula ∈ TT := tt_t (tm4 (List.mem_of_getElem? (i := 154) rfl)) rfl
theorem ml_L_57 : Cond.methodLink RL 57 yX10_length ∈ TT := tt_t (tm4 (List.mem_of_getElem? (i := 155) rfl)) rfl
theorem im_X10_length : Cond.instanceMethod yX10_length ∈ TT := tt_t (tm4 (List.mem_of_getElem? (i := 156) rfl)) rfl
theorem se_X10_length : Cond.selects RX10 yX10_length yX10_length ∈ TT := tt_t (tm4 (List.mem_of_getElem? (i := 157) rfl)) rfl
theorem mw_X10_length : MW yX10_length cX10_length 3 2 (some .int) := ⟨tt_t (tm4 (List.mem_of_getElem? (i := 158) rfl)) rfl, ini_X10, ⟨by decide, by decide⟩, by decide +kernel, by decide⟩
theorem co_X10_208 : Cond.constantLong RX10 208 (2147483647) ∈ TT := tt_t (tm4 (List.mem_of_getElem? (i := 159) rfl)) rfl
theorem ml_X10_210 : Cond.methodLink RX10 210 yJ9_min_f86c9 ∈ TT := tt_t (tm4 (List.mem_of_getElem? (i := 160) rfl)) rfl
theorem sm_J9_min_f86c9 : Cond.static yJ9_min_f86c9 ∈ TT := tt_t (tm4 (List.mem_of_getElem? (i := 161) rfl)) rfl
theorem mw_J9_min_f86c9 : MW yJ9_min_f86c9 cJ9_min_f86c9 4 2 (some .long) := ⟨tt_t (tm4 (List.mem_of_getElem? (i := 162) rfl)) rfl, ini_J9, ⟨by decide, by decide⟩, by decide +kernel, by decide⟩
theorem ml_L_61 : Cond.methodLink RL 61 yX10_size ∈ TT := tt_t (tm4 (List.mem_of_getElem? (i := 163) rfl)) rfl
theorem im_X10_size : Cond.instanceMethod yX10_size ∈ TT := tt_t (tm4 (List.mem_of_getElem? (i := 164) rfl)) rfl
theorem se_X10_size : Cond.selects RX10 yX10_size yX10_size ∈ TT := tt_t (tm4 (List.mem_of_getElem? (i := 165) rfl)) rfl
theorem mw_X10_size : MW yX10_size cX10_size 4 2 (some .int) := ⟨tt_t (tm4 (List.mem_of_getElem? (i := 166) rfl)) rfl, ini_X10, ⟨by decide, by decide⟩, by decide +kernel, by decide⟩
theorem ml_X10_230 : Cond.methodLink RX10 230 yX3_height ∈ TT := tt_t (tm4 (List.mem_of_getElem? (i := 167) rfl)) rfl
theorem im_X3_height : Cond.instanceMethod yX3_height ∈ TT := tt_t (tm4 (List.mem_of_getElem? (i := 168) rfl)) rfl
theorem se_X3_height : Cond.selects RX3 yX3_height yX3_height ∈ TT := tt_t (tm4 (List.mem_of_getElem? (i := 169) rfl)) rfl
theorem mw_X3_height : MW yX3_height cX3_height 3 0 (some .int) := ⟨tt_t (tm4 (List.mem_of_getElem? (i := 170) rfl)) rfl, ini_X3, ⟨by decide, by decide⟩, by decide +kernel, by decide⟩
theorem ml_X3_107 : Cond.methodLink RX3 107 yJ9_max_7cf53 ∈ TT := tt_t (tm4 (List.mem_of_getElem? (i := 171) rfl)) rfl
theorem sm_J9_max_7cf53 : Cond.static yJ9_max_7cf53 ∈ TT := tt_t (tm4 (List.mem_of_getElem? (i := 172) rfl)) rfl
theorem mw_J9_max_7cf53 : MW yJ9_max_7cf53 cJ9_max_7cf53 2 2 (some .int) := ⟨tt_t (tm4 (List.mem_of_getElem? (i := 173) rfl)) rfl, ini_J9, ⟨by decide, by decide⟩, by decide +kernel, by decide⟩
theorem ml_X10_233 : Cond.methodLink RX10 233 yX9_hypothesesUsed ∈ TT := tt_t (tm4 (List.mem_of_getElem? (i := 174) rfl)) rfl
theorem im_X9_hypothesesUsed : Cond.instanceMethod yX9_hypothesesUsed ∈ TT := tt_t (tm4 (List.mem_of_getElem? (i := 175) rfl)) rfl
theorem se_X9_hypothesesUsed : Cond.selects RX9 yX9_hypothesesUsed yX9_hypothesesUsed ∈ TT := tt_t (tm4 (List.mem_of_getElem? (i := 176) rfl)) rfl
theorem mw_X9_hypothesesUsed : MW yX9_hypothesesUsed cX9_hypothesesUsed 3 0 (some .int) := ⟨tt_t (tm4 (List.mem_of_getElem? (i := 177) rfl)) rfl, ini_X9, ⟨by decide, by decide⟩, by decide +kernel, by decide⟩
theorem ml_X10_236 : Cond.methodLink RX10 236 yX9_redexesOf ∈ TT := tt_t (tm4 (List.mem_of_getElem? (i := 178) rfl)) rfl
theorem im_X9_redexesOf : Cond.instanceMethod yX9_redexesOf ∈ TT := tt_t (tm4 (List.mem_of_getElem? (i := 179) rfl)) rfl
theorem se_X9_redexesOf : Cond.selects RX9 yX9_redexesOf yX9_redexesOf ∈ TT := tt_t (tm4 (List.mem_of_getElem? (i := 180) rfl)) rfl
theorem mw_X9_redexesOf : MW yX9_redexesOf cX9_redexesOf 5 1 (some .int) := ⟨tt_t (tm4 (List.mem_of_getElem? (i := 181) rfl)) rfl, ini_X9, ⟨by decide, by decide⟩, by decide +kernel, by decide⟩
theorem ml_X9_39 : Cond.methodLink RX9 39 yX9_redexAt ∈ TT := tt_t (tm4 (List.mem_of_getElem? (i := 182) rfl)) rfl
theorem im_X9_redexAt : Cond.instanceMethod yX9_redexAt ∈ TT := tt_t (tm4 (List.mem_of_getElem? (i := 183) rfl)) rfl
theorem se_X9_redexAt : Cond.selects RX9 yX9_redexAt yX9_redexAt ∈ TT := tt_t (tm4 (List.mem_of_getElem? (i := 184) rfl)) rfl
theorem mw_X9_redexAt : MW yX9_redexAt cX9_redexAt 4 1 (some .int) := ⟨tt_t (tm4 (List.mem_of_getElem? (i := 185) rfl)) rfl, ini_X9, ⟨by decide, by decide⟩, by decide +kernel, by decide⟩
theorem ml_X9_26 : Cond.methodLink RX9 26 yX9_opAt ∈ TT := tt_t (tm4 (List.mem_of_getElem? (i := 186) rfl)) rfl
theorem ml_X10_239 : Cond.methodLink RX10 239 yX10_sizeByFormulas ∈ TT := tt_t (tm4 (List.mem_of_getElem? (i := 187) rfl)) rfl
theorem im_X10_sizeByFormulas : Cond.instanceMethod yX10_sizeByFormulas ∈ TT := tt_t (tm4 (List.mem_of_getElem? (i := 189) rfl)) rfl
theorem mw_X10_sizeByFormulas : MW yX10_sizeByFormulas cX10_sizeByFormulas 2 1 (some .int) := ⟨tt_t (tm4 (List.mem_of_getElem? (i := 190) rfl)) rfl, ini_X10, ⟨by decide, by decide⟩, by decide +kernel, by decide⟩
theorem ml_X10_242 : Cond.methodLink RX10 242 yX1_beginMarks ∈ TT := tt_t (tm4 (List.mem_of_getElem? (i := 191) rfl)) rfl
theorem im_X1_beginMarks : Cond.instanceMethod yX1_beginMarks ∈ TT := tt_t (tm4 (List.mem_of_getElem? (i := 192) rfl)) rfl
theorem se_X1_beginMarks : Cond.selects RX1 yX1_beginMarks yX1_beginMarks ∈ TT := tt_t (tm4 (List.mem_of_getElem? (i := 193) rfl)) rfl
theorem mw_X1_beginMarks : MW yX1_beginMarks cX1_beginMarks 1 0 none := ⟨tt_t (tm4 (List.mem_of_getElem? (i := 194) rfl)) rfl, ini_X1, ⟨by decide, by decide⟩, by decide +kernel, by decide⟩
theorem ml_X10_245 : Cond.methodLink RX10 245 yX2_markFormulas ∈ TT := tt_t (tm4 (List.mem_of_getElem? (i := 195) rfl)) rfl
theorem im_X2_markFormulas : Cond.instanceMethod yX2_markFormulas ∈ TT := tt_t (tm4 (List.mem_of_getElem? (i := 196) rfl)) rfl
theorem se_X2_markFormulas : Cond.selects RX2 yX2_markFormulas yX2_markFormulas ∈ TT := tt_t (tm4 (List.mem_of_getElem? (i := 197) rfl)) rfl
theorem mw_X2_markFormulas : MW yX2_markFormulas cX2_markFormulas 3 1 none := ⟨tt_t (tm4 (List.mem_of_getElem? (i := 198) rfl)) rfl, ini_X2, ⟨by decide, by decide⟩, by decide +kernel, by decide⟩
theorem ml_X2_32 : Cond.methodLink RX2 32 yX1_mark ∈ TT := tt_t (tm4 (List.mem_of_getElem? (i := 199) rfl)) rfl
theorem im_X1_mark : Cond.instanceMethod yX1_mark ∈ TT := tt_t (tm4 (List.mem_of_getElem? (i := 200) rfl)) rfl
theorem se_X1_mark : Cond.selects RX1 yX1_mark yX1_mark ∈ TT := tt_t (tm4 (List.mem_of_getElem? (i := 201) rfl)) rfl
theorem mw_X1_mark : MW yX1_mark cX1_mark 2 1 (some .boolean) := ⟨tt_t (tm4 (List.mem_of_getElem? (i := 202) rfl)) rfl, ini_X1, ⟨by decide, by decide⟩, by decide +kernel, by decide⟩
theorem ml_X10_248 : Cond.methodLink RX10 248 yX1_mark ∈ TT := tt_t (tm4 (List.mem_of_getElem? (i := 203) rfl)) rfl
theorem ml_X10_251 : Cond.methodLink RX10 251 yX1_markParts ∈ TT := tt_t (tm4 (List.mem_of_getElem? (i := 204) rfl)) rfl
theorem im_X1_markParts : Cond.instanceMethod yX1_markParts ∈ TT := tt_t (tm4 (List.mem_of_getElem? (i := 205) rfl)) rfl
theorem se_X1_markParts : Cond.selects RX1 yX1_markParts yX1_markParts ∈ TT := tt_t (tm4 (List.mem_of_getElem? (i := 206) rfl)) rfl
theorem mw_X1_markParts : MW yX1_markParts cX1_markParts 3 0 (some .int) := ⟨tt_t (tm4 (List.mem_of_getElem? (i := 207) rfl)) rfl, ini_X1, ⟨by decide, by decide⟩, by decide +kernel, by decide⟩
theorem ml_X1_62 : Cond.methodLink RX1 62 yX1_mark ∈ TT := tt_t (tm4 (List.mem_of_getElem? (i := 208) rfl)) rfl
theorem ml_X10_254 : Cond.methodLink RX10 254 yX3_markTypes ∈ TT := tt_t (tm4 (List.mem_of_getElem? (i := 209) rfl)) rfl
theorem im_X3_markTypes : Cond.instanceMethod yX3_markTypes ∈ TT := tt_t (tm4 (List.mem_of_getElem? (i := 210) rfl)) rfl
theorem se_X3_markTypes : Cond.selects RX3 yX3_markTypes yX3_markTypes ∈ TT := tt_t (tm4 (List.mem_of_getElem? (i := 211) rfl)) rfl
theorem mw_X3_markTypes : MW yX3_markTypes cX3_markTypes 3 0 (some .int) := ⟨tt_t (tm4 (List.mem_of_getElem? (i := 212) rfl)) rfl, ini_X3, ⟨by decide, by decide⟩, by decide +kernel, by decide⟩
theorem ml_X3_148 : Cond.methodLink RX3 148 yX1_mark ∈ TT := tt_t (tm4 (List.mem_of_getElem? (i := 213) rfl)) rfl
theorem ml_L_65 : Cond.methodLink RL 65 yX10_redexes ∈ TT := tt_t (tm4 (List.mem_of_getElem? (i := 214) rfl)) rfl
theorem im_X10_redexes : Cond.instanceMethod yX10_redexes ∈ TT := tt_t (tm4 (List.mem_of_getElem? (i := 215) rfl)) rfl
theorem se_X10_redexes : Cond.selects RX10 yX10_redexes yX10_redexes ∈ TT := tt_t (tm4 (List.mem_of_getElem? (i := 216) rfl)) rfl
theorem mw_X10_redexes : MW yX10_redexes cX10_redexes 3 2 (some .int) := ⟨tt_t (tm4 (List.mem_of_getElem? (i := 217) rfl)) rfl, ini_X10, ⟨by decide, by decide⟩, by decide +kernel, by decide⟩
theorem ml_L_69 : Cond.methodLink RL 69 yX10_step ∈ TT := tt_t (tm4 (List.mem_of_getElem? (i := 218) rfl)) rfl
theorem im_X10_step : Cond.instanceMethod yX10_step ∈ TT := tt_t (tm4 (List.mem_of_getElem? (i := 219) rfl)) rfl
theorem se_X10_step : Cond.selects RX10 yX10_step yX10_step ∈ TT := tt_t (tm4 (List.mem_of_getElem? (i := 220) rfl)) rfl
theorem mw_X10_step : MW yX10_step cX10_step 3 1 (some .int) := ⟨tt_t (tm4 (List.mem_of_getElem? (i := 221) rfl)) rfl, ini_X10, ⟨by decide, by decide⟩, by decide +kernel, by decide⟩
theorem ml_X10_257 : Cond.methodLink RX10 257 yX7_reduce ∈ TT := tt_t (tm4 (List.mem_of_getElem? (i := 222) rfl)) rfl
theorem im_X7_reduce : Cond.instanceMethod yX7_reduce ∈ TT := tt_t (tm4 (List.mem_of_getElem? (i := 223) rfl)) rfl
theorem se_X7_reduce : Cond.selects RX7 yX7_reduce yX7_reduce ∈ TT := tt_t (tm4 (List.mem_of_getElem? (i := 224) rfl)) rfl
theorem mw_X7_reduce : MW yX7_reduce cX7_reduce 5 2 (some .int) := ⟨tt_t (tm4 (List.mem_of_getElem? (i := 225) rfl)) rfl, ini_X7, ⟨by decide, by decide⟩, by decide +kernel, by decide⟩
theorem ml_X7_31 : Cond.methodLink RX7 31 yX9_firstRedex ∈ TT := tt_t (tm4 (List.mem_of_getElem? (i := 226) rfl)) rfl
theorem im_X9_firstRedex : Cond.instanceMethod yX9_firstRedex ∈ TT := tt_t (tm4 (List.mem_of_getElem? (i := 227) rfl)) rfl
theorem se_X9_firstRedex : Cond.selects RX9 yX9_firstRedex yX9_firstRedex ∈ TT := tt_t (tm4 (List.mem_of_getElem? (i := 228) rfl)) rfl
theorem mw_X9_firstRedex : MW yX9_firstRedex cX9_firstRedex 2 0 (some .int) := ⟨tt_t (tm4 (List.mem_of_getElem? (i := 229) rfl)) rfl, ini_X9, ⟨by decide, by decide⟩, by decide +kernel, by decide⟩
theorem ml_X7_35 : Cond.methodLink RX7 35 yX9_redexAt ∈ TT := tt_t (tm4 (List.mem_of_getElem? (i := 230) rfl)) rfl
theorem ml_X7_39 : Cond.methodLink RX7 39 yX3_arrange ∈ TT := tt_t (tm4 (List.mem_of_getElem? (i := 231) rfl)) rfl
theorem ml_X7_45 : Cond.methodLink RX7 45 yX3_ask ∈ TT := tt_t (tm4 (List.mem_of_getElem? (i := 232) rfl)) rfl
theorem ml_X7_48 : Cond.methodLink RX7 48 yX9_clear ∈ TT := tt_t (tm4 (List.mem_of_getElem? (i := 233) rfl)) rfl
theorem ml_X7_51 : Cond.methodLink RX7 51 yX7_copyPlain ∈ TT := tt_t (tm4 (List.mem_of_getElem? (i := 234) rfl)) rfl
theorem im_X7_copyPlain : Cond.instanceMethod yX7_copyPlain ∈ TT := tt_t (tm4 (List.mem_of_getElem? (i := 236) rfl)) rfl
theorem mw_X7_copyPlain : MW yX7_copyPlain cX7_copyPlain 3 2 none := ⟨tt_t (tm4 (List.mem_of_getElem? (i := 237) rfl)) rfl, ini_X7, ⟨by decide, by decide⟩, by decide +kernel, by decide⟩
theorem ml_X7_83 : Cond.methodLink RX7 83 yX7_copyDeeper ∈ TT := tt_t (tm4 (List.mem_of_getElem? (i := 238) rfl)) rfl
theorem im_X7_copyDeeper : Cond.instanceMethod yX7_copyDeeper ∈ TT := tt_t (tm5 (List.mem_of_getElem? (i := 0) rfl)) rfl
theorem mw_X7_copyDeeper : MW yX7_copyDeeper cX7_copyDeeper 9 5 none := ⟨tt_t (tm5 (List.mem_of_getElem? (i := 1) rfl)) rfl, ini_X7, ⟨by decide, by decide⟩, by decide +kernel, by decide⟩
theorem ml_X7_87 : Cond.methodLink RX7 87 yX9_argAt ∈ TT := tt_t (tm5 (List.mem_of_getElem? (i := 2) rfl)) rfl
theorem ml_X7_90 : Cond.methodLink RX7 90 yX9_opAt ∈ TT := tt_t (tm5 (List.mem_of_getElem? (i := 3) rfl)) rfl
theorem ml_X7_80 : Cond.methodLink RX7 80 yX9_add ∈ TT := tt_t (tm5 (List.mem_of_getElem? (i := 4) rfl)) rfl
theorem ml_X7_55 : Cond.methodLink RX7 55 yX7_contract ∈ TT := tt_t (tm5 (List.mem_of_getElem? (i := 5) rfl)) rfl
theorem im_X7_contract : Cond.instanceMethod yX7_contract ∈ TT := tt_t (tm5 (List.mem_of_getElem? (i := 7) rfl)) rfl
theorem mw_X7_contract : MW yX7_contract cX7_contract 7 2 none := ⟨tt_t (tm5 (List.mem_of_getElem? (i := 8) rfl)) rfl, ini_X7, ⟨by decide, by decide⟩, by decide +kernel, by decide⟩
theorem ml_X7_58 : Cond.methodLink RX7 58 yX3_endOf ∈ TT := tt_t (tm5 (List.mem_of_getElem? (i := 9) rfl)) rfl
theorem ml_X7_69 : Cond.methodLink RX7 69 yX7_putFor ∈ TT := tt_t (tm5 (List.mem_of_getElem? (i := 10) rfl)) rfl
theorem im_X7_putFor : Cond.instanceMethod yX7_putFor ∈ TT := tt_t (tm5 (List.mem_of_getElem? (i := 12) rfl)) rfl
theorem mw_X7_putFor : MW yX7_putFor cX7_putFor 10 4 none := ⟨tt_t (tm5 (List.mem_of_getElem? (i := 13) rfl)) rfl, ini_X7, ⟨by decide, by decide⟩, by decide +kernel, by decide⟩
theorem ml_X7_93 : Cond.methodLink RX7 93 yX3_depthOf ∈ TT := tt_t (tm5 (List.mem_of_getElem? (i := 14) rfl)) rfl
theorem ml_X7_96 : Cond.methodLink RX7 96 yX9_isName ∈ TT := tt_t (tm5 (List.mem_of_getElem? (i := 15) rfl)) rfl
theorem im_X9_isName : Cond.instanceMethod yX9_isName ∈ TT := tt_t (tm5 (List.mem_of_getElem? (i := 16) rfl)) rfl
theorem se_X9_isName : Cond.selects RX9 yX9_isName yX9_isName ∈ TT := tt_t (tm5 (List.mem_of_getElem? (i := 17) rfl)) rfl
theorem mw_X9_isName : MW yX9_isName cX9_isName 3 2 (some .boolean) := ⟨tt_t (tm5 (List.mem_of_getElem? (i := 18) rfl)) rfl, ini_X9, ⟨by decide, by decide⟩, by decide +kernel, by decide⟩
theorem ml_X9_30 : Cond.methodLink RX9 30 yX9_argAt ∈ TT := tt_t (tm5 (List.mem_of_getElem? (i := 19) rfl)) rfl
theorem ml_X7_73 : Cond.methodLink RX7 73 yX7_moveOut ∈ TT := tt_t (tm5 (List.mem_of_getElem? (i := 20) rfl)) rfl
theorem im_X7_moveOut : Cond.instanceMethod yX7_moveOut ∈ TT := tt_t (tm5 (List.mem_of_getElem? (i := 22) rfl)) rfl
theorem mw_X7_moveOut : MW yX7_moveOut cX7_moveOut 7 1 none := ⟨tt_t (tm5 (List.mem_of_getElem? (i := 23) rfl)) rfl, ini_X7, ⟨by decide, by decide⟩, by decide +kernel, by decide⟩
theorem ml_X7_77 : Cond.methodLink RX7 77 yX3_typeOf ∈ TT := tt_t (tm5 (List.mem_of_getElem? (i := 24) rfl)) rfl
theorem ml_L_73 : Cond.methodLink RL 73 yX10_normal ∈ TT := tt_t (tm5 (List.mem_of_getElem? (i := 25) rfl)) rfl
theorem im_X10_normal : Cond.instanceMethod yX10_normal ∈ TT := tt_t (tm5 (List.mem_of_getElem? (i := 26) rfl)) rfl
theorem se_X10_normal : Cond.selects RX10 yX10_normal yX10_normal ∈ TT := tt_t (tm5 (List.mem_of_getElem? (i := 27) rfl)) rfl
theorem mw_X10_normal : MW yX10_normal cX10_normal 3 1 (some .int) := ⟨tt_t (tm5 (List.mem_of_getElem? (i := 28) rfl)) rfl, ini_X10, ⟨by decide, by decide⟩, by decide +kernel, by decide⟩
theorem ml_X10_261 : Cond.methodLink RX10 261 yX7_reduceAll ∈ TT := tt_t (tm5 (List.mem_of_getElem? (i := 29) rfl)) rfl
theorem im_X7_reduceAll : Cond.instanceMethod yX7_reduceAll ∈ TT := tt_t (tm5 (List.mem_of_getElem? (i := 30) rfl)) rfl
theorem se_X7_reduceAll : Cond.selects RX7 yX7_reduceAll yX7_reduceAll ∈ TT := tt_t (tm5 (List.mem_of_getElem? (i := 31) rfl)) rfl
theorem mw_X7_reduceAll : MW yX7_reduceAll cX7_reduceAll 6 2 (some .int) := ⟨tt_t (tm5 (List.mem_of_getElem? (i := 32) rfl)) rfl, ini_X7, ⟨by decide, by decide⟩, by decide +kernel, by decide⟩
theorem ml_X7_100 : Cond.methodLink RX7 100 yX9_takeOver ∈ TT := tt_t (tm5 (List.mem_of_getElem? (i := 33) rfl)) rfl
theorem ml_X7_103 : Cond.methodLink RX7 103 yX7_reduce ∈ TT := tt_t (tm5 (List.mem_of_getElem? (i := 34) rfl)) rfl
theorem ml_X10_265 : Cond.methodLink RX10 265 yX7_reduced ∈ TT := tt_t (tm5 (List.mem_of_getElem? (i := 35) rfl)) rfl
theorem im_X7_reduced : Cond.instanceMethod yX7_reduced ∈ TT := tt_t (tm5 (List.mem_of_getElem? (i := 36) rfl)) rfl
theorem se_X7_reduced : Cond.selects RX7 yX7_reduced yX7_reduced ∈ TT := tt_t (tm5 (List.mem_of_getElem? (i := 37) rfl)) rfl
theorem mw_X7_reduced : MW yX7_reduced cX7_reduced 1 0 (some (FieldType.object "ProofTrim$Term")) := ⟨tt_t (tm5 (List.mem_of_getElem? (i := 38) rfl)) rfl, ini_X7, ⟨by decide, by decide⟩, by decide +kernel, by decide⟩
theorem ml_L_77 : Cond.methodLink RL 77 yX10_trace ∈ TT := tt_t (tm5 (List.mem_of_getElem? (i := 40) rfl)) rfl
theorem im_X10_trace : Cond.instanceMethod yX10_trace ∈ TT := tt_t (tm5 (List.mem_of_getElem? (i := 41) rfl)) rfl
theorem se_X10_trace : Cond.selects RX10 yX10_trace yX10_trace ∈ TT := tt_t (tm5 (List.mem_of_getElem? (i := 42) rfl)) rfl
theorem mw_X10_trace : MW yX10_trace cX10_trace 2 1 (some .int) := ⟨tt_t (tm5 (List.mem_of_getElem? (i := 43) rfl)) rfl, ini_X10, ⟨by decide, by decide⟩, by decide +kernel, by decide⟩
theorem ml_L_81 : Cond.methodLink RL 81 yX10_cut ∈ TT := tt_t (tm5 (List.mem_of_getElem? (i := 44) rfl)) rfl
theorem im_X10_cut : Cond.instanceMethod yX10_cut ∈ TT := tt_t (tm5 (List.mem_of_getElem? (i := 45) rfl)) rfl
theorem se_X10_cut : Cond.selects RX10 yX10_cut yX10_cut ∈ TT := tt_t (tm5 (List.mem_of_getElem? (i := 46) rfl)) rfl
theorem mw_X10_cut : MW yX10_cut cX10_cut 5 4 (some .int) := ⟨tt_t (tm5 (List.mem_of_getElem? (i := 47) rfl)) rfl, ini_X10, ⟨by decide, by decide⟩, by decide +kernel, by decide⟩
theorem ml_X10_275 : Cond.methodLink RX10 275 yX10_provenBy ∈ TT := tt_t (tm5 (List.mem_of_getElem? (i := 48) rfl)) rfl
theorem im_X10_provenBy : Cond.instanceMethod yX10_provenBy ∈ TT := tt_t (tm5 (List.mem_of_getElem? (i := 50) rfl)) rfl
theorem mw_X10_provenBy : MW yX10_provenBy cX10_provenBy 2 1 (some .int) := ⟨tt_t (tm5 (List.mem_of_getElem? (i := 51) rfl)) rfl, ini_X10, ⟨by decide, by decide⟩, by decide +kernel, by decide⟩
theorem ml_X10_278 : Cond.methodLink RX10 278 yX7_replace ∈ TT := tt_t (tm5 (List.mem_of_getElem? (i := 52) rfl)) rfl
theorem im_X7_replace : Cond.instanceMethod yX7_replace ∈ TT := tt_t (tm5 (List.mem_of_getElem? (i := 53) rfl)) rfl
theorem se_X7_replace : Cond.selects RX7 yX7_replace yX7_replace ∈ TT := tt_t (tm5 (List.mem_of_getElem? (i := 54) rfl)) rfl
theorem mw_X7_replace : MW yX7_replace cX7_replace 6 4 (some .boolean) := ⟨tt_t (tm5 (List.mem_of_getElem? (i := 55) rfl)) rfl, ini_X7, ⟨by decide, by decide⟩, by decide +kernel, by decide⟩
theorem ml_L_86 : Cond.methodLink RL 86 yX10_lines ∈ TT := tt_t (tm5 (List.mem_of_getElem? (i := 56) rfl)) rfl
theorem im_X10_lines : Cond.instanceMethod yX10_lines ∈ TT := tt_t (tm5 (List.mem_of_getElem? (i := 57) rfl)) rfl
theorem se_X10_lines : Cond.selects RX10 yX10_lines yX10_lines ∈ TT := tt_t (tm5 (List.mem_of_getElem? (i := 58) rfl)) rfl
theorem mw_X10_lines : MW yX10_lines cX10_lines 3 1 (some .int) := ⟨tt_t (tm5 (List.mem_of_getElem? (i := 59) rfl)) rfl, ini_X10, ⟨by decide, by decide⟩, by decide +kernel, by decide⟩
theorem ml_X10_282 : Cond.methodLink RX10 282 yX10_numberLines ∈ TT := tt_t (tm5 (List.mem_of_getElem? (i := 60) rfl)) rfl
theorem im_X10_numberLines : Cond.instanceMethod yX10_numberLines ∈ TT := tt_t (tm5 (List.mem_of_getElem? (i := 62) rfl)) rfl
theorem mw_X10_numberLines : MW yX10_numberLines cX10_numberLines 2 1 (some .int) := ⟨tt_t (tm5 (List.mem_of_getElem? (i := 63) rfl)) rfl, ini_X10, ⟨by decide, by decide⟩, by decide +kernel, by decide⟩
theorem ml_X10_296 : Cond.methodLink RX10 296 yX4_fill ∈ TT := tt_t (tm5 (List.mem_of_getElem? (i := 64) rfl)) rfl
theorem im_X4_fill : Cond.instanceMethod yX4_fill ∈ TT := tt_t (tm5 (List.mem_of_getElem? (i := 65) rfl)) rfl
theorem se_X4_fill : Cond.selects RX4 yX4_fill yX4_fill ∈ TT := tt_t (tm5 (List.mem_of_getElem? (i := 66) rfl)) rfl
theorem mw_X4_fill : MW yX4_fill cX4_fill 4 1 none := ⟨tt_t (tm5 (List.mem_of_getElem? (i := 67) rfl)) rfl, ini_X4, ⟨by decide, by decide⟩, by decide +kernel, by decide⟩
theorem ml_X4_45 : Cond.methodLink RX4 45 yX2_formulaOf ∈ TT := tt_t (tm5 (List.mem_of_getElem? (i := 68) rfl)) rfl
theorem ml_X4_49 : Cond.methodLink RX4 49 yX4_addLine ∈ TT := tt_t (tm5 (List.mem_of_getElem? (i := 69) rfl)) rfl
theorem im_X4_addLine : Cond.instanceMethod yX4_addLine ∈ TT := tt_t (tm5 (List.mem_of_getElem? (i := 71) rfl)) rfl
theorem mw_X4_addLine : MW yX4_addLine cX4_addLine 6 3 (some .int) := ⟨tt_t (tm5 (List.mem_of_getElem? (i := 72) rfl)) rfl, ini_X4, ⟨by decide, by decide⟩, by decide +kernel, by decide⟩
theorem ml_X4_58 : Cond.methodLink RX4 58 yX3_stop ∈ TT := tt_t (tm5 (List.mem_of_getElem? (i := 73) rfl)) rfl
theorem ml_X4_61 : Cond.methodLink RX4 61 yX4_takeOn ∈ TT := tt_t (tm5 (List.mem_of_getElem? (i := 74) rfl)) rfl
theorem im_X4_takeOn : Cond.instanceMethod yX4_takeOn ∈ TT := tt_t (tm5 (List.mem_of_getElem? (i := 76) rfl)) rfl
theorem mw_X4_takeOn : MW yX4_takeOn cX4_takeOn 5 2 none := ⟨tt_t (tm5 (List.mem_of_getElem? (i := 77) rfl)) rfl, ini_X4, ⟨by decide, by decide⟩, by decide +kernel, by decide⟩
theorem ml_X4_68 : Cond.methodLink RX4 68 yX3_depthOf ∈ TT := tt_t (tm5 (List.mem_of_getElem? (i := 78) rfl)) rfl
theorem ml_X4_71 : Cond.methodLink RX4 71 yX3_takenOn ∈ TT := tt_t (tm5 (List.mem_of_getElem? (i := 79) rfl)) rfl
theorem ml_X4_65 : Cond.methodLink RX4 65 yX4_endNode ∈ TT := tt_t (tm5 (List.mem_of_getElem? (i := 80) rfl)) rfl
theorem im_X4_endNode : Cond.instanceMethod yX4_endNode ∈ TT := tt_t (tm5 (List.mem_of_getElem? (i := 82) rfl)) rfl
theorem mw_X4_endNode : MW yX4_endNode cX4_endNode 8 2 none := ⟨tt_t (tm5 (List.mem_of_getElem? (i := 83) rfl)) rfl, ini_X4, ⟨by decide, by decide⟩, by decide +kernel, by decide⟩
theorem ml_X4_78 : Cond.methodLink RX4 78 yX9_opAt ∈ TT := tt_t (tm5 (List.mem_of_getElem? (i := 84) rfl)) rfl
theorem ml_X4_83 : Cond.methodLink RX4 83 yX9_argAt ∈ TT := tt_t (tm5 (List.mem_of_getElem? (i := 85) rfl)) rfl
theorem ml_X4_86 : Cond.methodLink RX4 86 yX4_lineOfName ∈ TT := tt_t (tm5 (List.mem_of_getElem? (i := 86) rfl)) rfl
theorem im_X4_lineOfName : Cond.instanceMethod yX4_lineOfName ∈ TT := tt_t (tm5 (List.mem_of_getElem? (i := 88) rfl)) rfl
theorem mw_X4_lineOfName : MW yX4_lineOfName cX4_lineOfName 2 1 (some .int) := ⟨tt_t (tm5 (List.mem_of_getElem? (i := 89) rfl)) rfl, ini_X4, ⟨by decide, by decide⟩, by decide +kernel, by decide⟩
theorem mn_X4_34 : Cond.methodLinkNest RX4 34 yX10_at "ProofTrim" ∈ NW := nw_t (tm5 (List.mem_of_getElem? (i := 90) rfl)) rfl
theorem ml_X4_89 : Cond.methodLink RX4 89 yX3_typeOf ∈ TT := tt_t (tm5 (List.mem_of_getElem? (i := 91) rfl)) rfl
theorem ml_X4_92 : Cond.methodLink RX4 92 yX4_setFrom ∈ TT := tt_t (tm5 (List.mem_of_getElem? (i := 92) rfl)) rfl
theorem im_X4_setFrom : Cond.instanceMethod yX4_setFrom ∈ TT := tt_t (tm5 (List.mem_of_getElem? (i := 94) rfl)) rfl
theorem mw_X4_setFrom : MW yX4_setFrom cX4_setFrom 5 3 none := ⟨tt_t (tm5 (List.mem_of_getElem? (i := 95) rfl)) rfl, ini_X4, ⟨by decide, by decide⟩, by decide +kernel, by decide⟩
theorem mn_X4_96 : Cond.methodLinkNest RX4 96 yX10_arity "ProofTrim" ∈ NW := nw_t (tm5 (List.mem_of_getElem? (i := 96) rfl)) rfl
theorem ml_X4_99 : Cond.methodLink RX4 99 yX3_endOf ∈ TT := tt_t (tm5 (List.mem_of_getElem? (i := 97) rfl)) rfl
theorem ml_L_90 : Cond.methodLink RL 90 yX10_line ∈ TT := tt_t (tm5 (List.mem_of_getElem? (i := 98) rfl)) rfl
theorem im_X10_line : Cond.instanceMethod yX10_line ∈ TT := tt_t (tm5 (List.mem_of_getElem? (i := 99) rfl)) rfl
theorem se_X10_line : Cond.selects RX10 yX10_line yX10_line ∈ TT := tt_t (tm5 (List.mem_of_getElem? (i := 100) rfl)) rfl
theorem mw_X10_line : MW yX10_line cX10_line 5 3 (some .int) := ⟨tt_t (tm5 (List.mem_of_getElem? (i := 101) rfl)) rfl, ini_X10, ⟨by decide, by decide⟩, by decide +kernel, by decide⟩
theorem ml_X10_286 : Cond.methodLink RX10 286 yX4_ruleOf ∈ TT := tt_t (tm5 (List.mem_of_getElem? (i := 102) rfl)) rfl
theorem im_X4_ruleOf : Cond.instanceMethod yX4_ruleOf ∈ TT := tt_t (tm5 (List.mem_of_getElem? (i := 103) rfl)) rfl
theorem se_X4_ruleOf : Cond.selects RX4 yX4_ruleOf yX4_ruleOf ∈ TT := tt_t (tm5 (List.mem_of_getElem? (i := 104) rfl)) rfl
theorem mw_X4_ruleOf : MW yX4_ruleOf cX4_ruleOf 2 1 (some .int) := ⟨tt_t (tm5 (List.mem_of_getElem? (i := 105) rfl)) rfl, ini_X4, ⟨by decide, by decide⟩, by decide +kernel, by decide⟩
theorem ml_X10_289 : Cond.methodLink RX10 289 yX4_deepOf ∈ TT := tt_t (tm5 (List.mem_of_getElem? (i := 106) rfl)) rfl
theorem im_X4_deepOf : Cond.instanceMethod yX4_deepOf ∈ TT := tt_t (tm5 (List.mem_of_getElem? (i := 107) rfl)) rfl
theorem se_X4_deepOf : Cond.selects RX4 yX4_deepOf yX4_deepOf ∈ TT := tt_t (tm5 (List.mem_of_getElem? (i := 108) rfl)) rfl
theorem mw_X4_deepOf : MW yX4_deepOf cX4_deepOf 2 1 (some .int) := ⟨tt_t (tm5 (List.mem_of_getElem? (i := 109) rfl)) rfl, ini_X4, ⟨by decide, by decide⟩, by decide +kernel, by decide⟩
theorem ml_X10_292 : Cond.methodLink RX10 292 yX4_fromOf ∈ TT := tt_t (tm5 (List.mem_of_getElem? (i := 110) rfl)) rfl
theorem im_X4_fromOf : Cond.instanceMethod yX4_fromOf ∈ TT := tt_t (tm5 (List.mem_of_getElem? (i := 111) rfl)) rfl
theorem se_X4_fromOf : Cond.selects RX4 yX4_fromOf yX4_fromOf ∈ TT := tt_t (tm5 (List.mem_of_getElem? (i := 112) rfl)) rfl
theorem mw_X4_fromOf : MW yX4_fromOf cX4_fromOf 3 2 (some .int) := ⟨tt_t (tm5 (List.mem_of_getElem? (i := 113) rfl)) rfl, ini_X4, ⟨by decide, by decide⟩, by decide +kernel, by decide⟩
theorem ml_L_94 : Cond.methodLink RL 94 yX10_lineByte ∈ TT := tt_t (tm5 (List.mem_of_getElem? (i := 114) rfl)) rfl
theorem im_X10_lineByte : Cond.instanceMethod yX10_lineByte ∈ TT := tt_t (tm5 (List.mem_of_getElem? (i := 115) rfl)) rfl
theorem se_X10_lineByte : Cond.selects RX10 yX10_lineByte yX10_lineByte ∈ TT := tt_t (tm5 (List.mem_of_getElem? (i := 116) rfl)) rfl
theorem mw_X10_lineByte : MW yX10_lineByte cX10_lineByte 5 3 (some .int) := ⟨tt_t (tm5 (List.mem_of_getElem? (i := 117) rfl)) rfl, ini_X10, ⟨by decide, by decide⟩, by decide +kernel, by decide⟩
theorem ml_X10_295 : Cond.methodLink RX10 295 yX4_formulaOf ∈ TT := tt_t (tm5 (List.mem_of_getElem? (i := 118) rfl)) rfl
theorem im_X4_formulaOf : Cond.instanceMethod yX4_formulaOf ∈ TT := tt_t (tm5 (List.mem_of_getElem? (i := 119) rfl)) rfl
theorem se_X4_formulaOf : Cond.selects RX4 yX4_formulaOf yX4_formulaOf ∈ TT := tt_t (tm5 (List.mem_of_getElem? (i := 120) rfl)) rfl
theorem mw_X4_formulaOf : MW yX4_formulaOf cX4_formulaOf 2 1 (some .int) := ⟨tt_t (tm5 (List.mem_of_getElem? (i := 121) rfl)) rfl, ini_X4, ⟨by decide, by decide⟩, by decide +kernel, by decide⟩
theorem ml_L_98 : Cond.methodLink RL 98 yX10_equal ∈ TT := tt_t (tm5 (List.mem_of_getElem? (i := 122) rfl)) rfl
theorem im_X10_equal : Cond.instanceMethod yX10_equal ∈ TT := tt_t (tm5 (List.mem_of_getElem? (i := 123) rfl)) rfl
theorem se_X10_equal : Cond.selects RX10 yX10_equal yX10_equal ∈ TT := tt_t (tm5 (List.mem_of_getElem? (i := 124) rfl)) rfl
theorem mw_X10_equal : MW yX10_equal cX10_equal 3 2 (some .int) := ⟨tt_t (tm5 (List.mem_of_getElem? (i := 125) rfl)) rfl, ini_X10, ⟨by decide, by decide⟩, by decide +kernel, by decide⟩
theorem ml_X10_299 : Cond.methodLink RX10 299 yX9_sameAs ∈ TT := tt_t (tm5 (List.mem_of_getElem? (i := 126) rfl)) rfl
theorem im_X9_sameAs : Cond.instanceMethod yX9_sameAs ∈ TT := tt_t (tm5 (List.mem_of_getElem? (i := 127) rfl)) rfl
theorem se_X9_sameAs : Cond.selects RX9 yX9_sameAs yX9_sameAs ∈ TT := tt_t (tm5 (List.mem_of_getElem? (i := 128) rfl)) rfl
theorem mw_X9_sameAs : MW yX9_sameAs cX9_sameAs 3 1 (some .boolean) := ⟨tt_t (tm5 (List.mem_of_getElem? (i := 129) rfl)) rfl, ini_X9, ⟨by decide, by decide⟩, by decide +kernel, by decide⟩
theorem ml_L_102 : Cond.methodLink RL 102 yX10_alike ∈ TT := tt_t (tm5 (List.mem_of_getElem? (i := 130) rfl)) rfl
theorem im_X10_alike : Cond.instanceMethod yX10_alike ∈ TT := tt_t (tm5 (List.mem_of_getElem? (i := 131) rfl)) rfl
theorem se_X10_alike : Cond.selects RX10 yX10_alike yX10_alike ∈ TT := tt_t (tm5 (List.mem_of_getElem? (i := 132) rfl)) rfl
theorem mw_X10_alike : MW yX10_alike cX10_alike 3 2 (some .int) := ⟨tt_t (tm5 (List.mem_of_getElem? (i := 133) rfl)) rfl, ini_X10, ⟨by decide, by decide⟩, by decide +kernel, by decide⟩
theorem ml_L_106 : Cond.methodLink RL 106 yX10_side ∈ TT := tt_t (tm5 (List.mem_of_getElem? (i := 134) rfl)) rfl
theorem im_X10_side : Cond.instanceMethod yX10_side ∈ TT := tt_t (tm5 (List.mem_of_getElem? (i := 135) rfl)) rfl
theorem se_X10_side : Cond.selects RX10 yX10_side yX10_side ∈ TT := tt_t (tm5 (List.mem_of_getElem? (i := 136) rfl)) rfl
theorem mw_X10_side : MW yX10_side cX10_side 3 1 (some .int) := ⟨tt_t (tm5 (List.mem_of_getElem? (i := 137) rfl)) rfl, ini_X10, ⟨by decide, by decide⟩, by decide +kernel, by decide⟩
theorem ml_X10_303 : Cond.methodLink RX10 303 yX1_kindOf ∈ TT := tt_t (tm5 (List.mem_of_getElem? (i := 138) rfl)) rfl
theorem ml_X10_306 : Cond.methodLink RX10 306 yX9_opAt ∈ TT := tt_t (tm5 (List.mem_of_getElem? (i := 139) rfl)) rfl
theorem ml_L_110 : Cond.methodLink RL 110 yX10_provable ∈ TT := tt_t (tm5 (List.mem_of_getElem? (i := 140) rfl)) rfl
theorem im_X10_provable : Cond.instanceMethod yX10_provable ∈ TT := tt_t (tm5 (List.mem_of_getElem? (i := 141) rfl)) rfl
theorem se_X10_provable : Cond.selects RX10 yX10_provable yX10_provable ∈ TT := tt_t (tm5 (List.mem_of_getElem? (i := 142) rfl)) rfl
theorem mw_X10_provable : MW yX10_provable cX10_provable 1 0 (some .int) := ⟨tt_t (tm5 (List.mem_of_getElem? (i := 143) rfl)) rfl, ini_X10, ⟨by decide, by decide⟩, by decide +kernel, by decide⟩
theorem ml_X10_309 : Cond.methodLink RX10 309 yX10_provableFrom ∈ TT := tt_t (tm5 (List.mem_of_getElem? (i := 144) rfl)) rfl
theorem im_X10_provableFrom : Cond.instanceMethod yX10_provableFrom ∈ TT := tt_t (tm5 (List.mem_of_getElem? (i := 146) rfl)) rfl
theorem mw_X10_provableFrom : MW yX10_provableFrom cX10_provableFrom 2 1 (some .int) := ⟨tt_t (tm5 (List.mem_of_getElem? (i := 147) rfl)) rfl, ini_X10, ⟨by decide, by decide⟩, by decide +kernel, by decide⟩
theorem ml_X10_318 : Cond.methodLink RX10 318 yX2_wordsInAll ∈ TT := tt_t (tm5 (List.mem_of_getElem? (i := 148) rfl)) rfl
theorem im_X2_wordsInAll : Cond.instanceMethod yX2_wordsInAll ∈ TT := tt_t (tm5 (List.mem_of_getElem? (i := 149) rfl)) rfl
theorem se_X2_wordsInAll : Cond.selects RX2 yX2_wordsInAll yX2_wordsInAll ∈ TT := tt_t (tm5 (List.mem_of_getElem? (i := 150) rfl)) rfl
theorem mw_X2_wordsInAll : MW yX2_wordsInAll cX2_wordsInAll 3 0 (some .int) := ⟨tt_t (tm5 (List.mem_of_getElem? (i := 151) rfl)) rfl, ini_X2, ⟨by decide, by decide⟩, by decide +kernel, by decide⟩
theorem ml_X10_321 : Cond.methodLink RX10 321 yX5_collect ∈ TT := tt_t (tm5 (List.mem_of_getElem? (i := 152) rfl)) rfl
theorem im_X5_collect : Cond.instanceMethod yX5_collect ∈ TT := tt_t (tm5 (List.mem_of_getElem? (i := 153) rfl)) rfl
theorem se_X5_collect : Cond.selects RX5 yX5_collect yX5_collect ∈ TT := tt_t (tm5 (List.mem_of_getElem? (i := 154) rfl)) rfl
theorem mw_X5_collect : MW yX5_collect cX5_collect 5 2 none := ⟨tt_t (tm5 (List.mem_of_getElem? (i := 155) rfl)) rfl, ini_X5, ⟨by decide, by decide⟩, by decide +kernel, by decide⟩
theorem ml_X5_34 : Cond.methodLink RX5 34 yX1_beginMarks ∈ TT := tt_t (tm5 (List.mem_of_getElem? (i := 156) rfl)) rfl
theorem ml_X5_37 : Cond.methodLink RX5 37 yX2_markFormulas ∈ TT := tt_t (tm5 (List.mem_of_getElem? (i := 157) rfl)) rfl
theorem ml_X5_43 : Cond.methodLink RX5 43 yX1_mark ∈ TT := tt_t (tm5 (List.mem_of_getElem? (i := 158) rfl)) rfl
theorem ml_X5_47 : Cond.methodLink RX5 47 yX1_markParts ∈ TT := tt_t (tm5 (List.mem_of_getElem? (i := 159) rfl)) rfl
theorem ml_X5_55 : Cond.methodLink RX5 55 yX1_isMarked ∈ TT := tt_t (tm5 (List.mem_of_getElem? (i := 160) rfl)) rfl
theorem im_X1_isMarked : Cond.instanceMethod yX1_isMarked ∈ TT := tt_t (tm5 (List.mem_of_getElem? (i := 161) rfl)) rfl
theorem se_X1_isMarked : Cond.selects RX1 yX1_isMarked yX1_isMarked ∈ TT := tt_t (tm5 (List.mem_of_getElem? (i := 162) rfl)) rfl
theorem mw_X1_isMarked : MW yX1_isMarked cX1_isMarked 2 1 (some .boolean) := ⟨tt_t (tm5 (List.mem_of_getElem? (i := 163) rfl)) rfl, ini_X1, ⟨by decide, by decide⟩, by decide +kernel, by decide⟩
theorem ml_X5_58 : Cond.methodLink RX5 58 yX1_kindOf ∈ TT := tt_t (tm5 (List.mem_of_getElem? (i := 164) rfl)) rfl
theorem ml_X5_62 : Cond.methodLink RX5 62 yX1_leftOf ∈ TT := tt_t (tm5 (List.mem_of_getElem? (i := 165) rfl)) rfl
theorem ml_X5_65 : Cond.methodLink RX5 65 yX5_spotOf ∈ TT := tt_t (tm5 (List.mem_of_getElem? (i := 166) rfl)) rfl
theorem im_X5_spotOf : Cond.instanceMethod yX5_spotOf ∈ TT := tt_t (tm5 (List.mem_of_getElem? (i := 167) rfl)) rfl
theorem se_X5_spotOf : Cond.selects RX5 yX5_spotOf yX5_spotOf ∈ TT := tt_t (tm5 (List.mem_of_getElem? (i := 168) rfl)) rfl
theorem mw_X5_spotOf : MW yX5_spotOf cX5_spotOf 2 1 (some .int) := ⟨tt_t (tm5 (List.mem_of_getElem? (i := 169) rfl)) rfl, ini_X5, ⟨by decide, by decide⟩, by decide +kernel, by decide⟩
theorem mn_X5_71 : Cond.methodLinkNest RX5 71 yX10_at "ProofTrim" ∈ NW := nw_t (tm5 (List.mem_of_getElem? (i := 170) rfl)) rfl
theorem ml_X5_68 : Cond.methodLink RX5 68 yX1_rightOf ∈ TT := tt_t (tm5 (List.mem_of_getElem? (i := 171) rfl)) rfl
theorem ml_X10_325 : Cond.methodLink RX10 325 yX0_decide ∈ TT := tt_t (tm5 (List.mem_of_getElem? (i := 172) rfl)) rfl
theorem im_X0_decide : Cond.instanceMethod yX0_decide ∈ TT := tt_t (tm5 (List.mem_of_getElem? (i := 173) rfl)) rfl
theorem se_X0_decide : Cond.selects RX0 yX0_decide yX0_decide ∈ TT := tt_t (tm5 (List.mem_of_getElem? (i := 174) rfl)) rfl
theorem mw_X0_decide : MW yX0_decide cX0_decide 6 2 (some .boolean) := ⟨tt_t (tm5 (List.mem_of_getElem? (i := 175) rfl)) rfl, ini_X0, ⟨by decide, by decide⟩, by decide +kernel, by decide⟩
theorem ml_X0_32 : Cond.methodLink RX0 32 yX0_takeParts ∈ TT := tt_t (tm5 (List.mem_of_getElem? (i := 176) rfl)) rfl
theorem im_X0_takeParts : Cond.instanceMethod yX0_takeParts ∈ TT := tt_t (tm5 (List.mem_of_getElem? (i := 178) rfl)) rfl
theorem mw_X0_takeParts : MW yX0_takeParts cX0_takeParts 2 0 none := ⟨tt_t (tm5 (List.mem_of_getElem? (i := 179) rfl)) rfl, ini_X0, ⟨by decide, by decide⟩, by decide +kernel, by decide⟩
theorem ml_X0_73 : Cond.methodLink RX0 73 yJ9_min_7cf53 ∈ TT := tt_t (tm5 (List.mem_of_getElem? (i := 180) rfl)) rfl
theorem ml_X0_83 : Cond.methodLink RX0 83 yX5_kindAt ∈ TT := tt_t (tm5 (List.mem_of_getElem? (i := 181) rfl)) rfl
theorem im_X5_kindAt : Cond.instanceMethod yX5_kindAt ∈ TT := tt_t (tm5 (List.mem_of_getElem? (i := 182) rfl)) rfl
theorem se_X5_kindAt : Cond.selects RX5 yX5_kindAt yX5_kindAt ∈ TT := tt_t (tm5 (List.mem_of_getElem? (i := 183) rfl)) rfl
theorem mw_X5_kindAt : MW yX5_kindAt cX5_kindAt 2 1 (some .int) := ⟨tt_t (tm5 (List.mem_of_getElem? (i := 184) rfl)) rfl, ini_X5, ⟨by decide, by decide⟩, by decide +kernel, by decide⟩
theorem ml_X0_86 : Cond.methodLink RX0 86 yX5_leftAt ∈ TT := tt_t (tm5 (List.mem_of_getElem? (i := 185) rfl)) rfl
theorem im_X5_leftAt : Cond.instanceMethod yX5_leftAt ∈ TT := tt_t (tm5 (List.mem_of_getElem? (i := 186) rfl)) rfl
theorem se_X5_leftAt : Cond.selects RX5 yX5_leftAt yX5_leftAt ∈ TT := tt_t (tm5 (List.mem_of_getElem? (i := 187) rfl)) rfl
theorem mw_X5_leftAt : MW yX5_leftAt cX5_leftAt 2 1 (some .int) := ⟨tt_t (tm5 (List.mem_of_getElem? (i := 188) rfl)) rfl, ini_X5, ⟨by decide, by decide⟩, by decide +kernel, by decide⟩
theorem ml_X0_53 : Cond.methodLink RX0 53 yX0_bit ∈ TT := tt_t (tm5 (List.mem_of_getElem? (i := 189) rfl)) rfl
theorem sm_X0_bit : Cond.static yX0_bit ∈ TT := tt_t (tm5 (List.mem_of_getElem? (i := 190) rfl)) rfl
theorem mw_X0_bit : MW yX0_bit cX0_bit 1 1 (some .long) := ⟨tt_t (tm5 (List.mem_of_getElem? (i := 191) rfl)) rfl, ini_X0, ⟨by decide, by decide⟩, by decide +kernel, by decide⟩
theorem ml_X0_89 : Cond.methodLink RX0 89 yX5_rightAt ∈ TT := tt_t (tm5 (List.mem_of_getElem? (i := 192) rfl)) rfl
theorem im_X5_rightAt : Cond.instanceMethod yX5_rightAt ∈ TT := tt_t (tm5 (List.mem_of_getElem? (i := 193) rfl)) rfl
theorem se_X5_rightAt : Cond.selects RX5 yX5_rightAt yX5_rightAt ∈ TT := tt_t (tm5 (List.mem_of_getElem? (i := 194) rfl)) rfl
theorem mw_X5_rightAt : MW yX5_rightAt cX5_rightAt 2 1 (some .int) := ⟨tt_t (tm5 (List.mem_of_getElem? (i := 195) rfl)) rfl, ini_X5, ⟨by decide, by decide⟩, by decide +kernel, by decide⟩
theorem ml_X0_44 : Cond.methodLink RX0 44 yX2_formulaOf ∈ TT := tt_t (tm5 (List.mem_of_getElem? (i := 196) rfl)) rfl
theorem ml_X0_48 : Cond.methodLink RX0 48 yX5_spotOf ∈ TT := tt_t (tm5 (List.mem_of_getElem? (i := 197) rfl)) rfl
theorem ml_X0_61 : Cond.methodLink RX0 61 yX0_findAsked ∈ TT := tt_t (tm5 (List.mem_of_getElem? (i := 198) rfl)) rfl
theorem im_X0_findAsked : Cond.instanceMethod yX0_findAsked ∈ TT := tt_t (tm5 (List.mem_of_getElem? (i := 200) rfl)) rfl
theorem mw_X0_findAsked : MW yX0_findAsked cX0_findAsked 9 1 (some .long) := ⟨tt_t (tm5 (List.mem_of_getElem? (i := 201) rfl)) rfl, ini_X0, ⟨by decide, by decide⟩, by decide +kernel, by decide⟩
theorem ml_X0_68 : Cond.methodLink RX0 68 yX0_close ∈ TT := tt_t (tm5 (List.mem_of_getElem? (i := 202) rfl)) rfl
theorem im_X0_close : Cond.instanceMethod yX0_close ∈ TT := tt_t (tm5 (List.mem_of_getElem? (i := 204) rfl)) rfl
theorem mw_X0_close : MW yX0_close cX0_close 10 2 (some .long) := ⟨tt_t (tm5 (List.mem_of_getElem? (i := 205) rfl)) rfl, ini_X0, ⟨by decide, by decide⟩, by decide +kernel, by decide⟩
theorem ml_X0_92 : Cond.methodLink RX0 92 yX0_saturate ∈ TT := tt_t (tm5 (List.mem_of_getElem? (i := 206) rfl)) rfl
theorem im_X0_saturate : Cond.instanceMethod yX0_saturate ∈ TT := tt_t (tm5 (List.mem_of_getElem? (i := 208) rfl)) rfl
theorem mw_X0_saturate : MW yX0_saturate cX0_saturate 9 1 (some .long) := ⟨tt_t (tm5 (List.mem_of_getElem? (i := 209) rfl)) rfl, ini_X0, ⟨by decide, by decide⟩, by decide +kernel, by decide⟩
theorem ml_X0_114 : Cond.methodLink RX0 114 yX0_atOnce ∈ TT := tt_t (tm5 (List.mem_of_getElem? (i := 210) rfl)) rfl
theorem im_X0_atOnce : Cond.instanceMethod yX0_atOnce ∈ TT := tt_t (tm5 (List.mem_of_getElem? (i := 212) rfl)) rfl
theorem mw_X0_atOnce : MW yX0_atOnce cX0_atOnce 7 2 (some .long) := ⟨tt_t (tm5 (List.mem_of_getElem? (i := 213) rfl)) rfl, ini_X0, ⟨by decide, by decide⟩, by decide +kernel, by decide⟩
theorem co_X0_95 : Cond.constantLong RX0 95 (-1) ∈ TT := tt_t (tm5 (List.mem_of_getElem? (i := 214) rfl)) rfl
theorem ml_X0_97 : Cond.methodLink RX0 97 yX0_memoSpot ∈ TT := tt_t (tm5 (List.mem_of_getElem? (i := 215) rfl)) rfl
theorem im_X0_memoSpot : Cond.instanceMethod yX0_memoSpot ∈ TT := tt_t (tm5 (List.mem_of_getElem? (i := 217) rfl)) rfl
theorem mw_X0_memoSpot : MW yX0_memoSpot cX0_memoSpot 7 1 (some .int) := ⟨tt_t (tm5 (List.mem_of_getElem? (i := 218) rfl)) rfl, ini_X0, ⟨by decide, by decide⟩, by decide +kernel, by decide⟩
theorem co_X0_117 : Cond.constantLong RX0 117 (-7046029254386353131) ∈ TT := tt_t (tm5 (List.mem_of_getElem? (i := 219) rfl)) rfl
theorem ml_X0_101 : Cond.methodLink RX0 101 yX0_openOr ∈ TT := tt_t (tm5 (List.mem_of_getElem? (i := 220) rfl)) rfl
theorem im_X0_openOr : Cond.instanceMethod yX0_openOr ∈ TT := tt_t (tm5 (List.mem_of_getElem? (i := 222) rfl)) rfl
theorem mw_X0_openOr : MW yX0_openOr cX0_openOr 4 1 (some .int) := ⟨tt_t (tm5 (List.mem_of_getElem? (i := 223) rfl)) rfl, ini_X0, ⟨by decide, by decide⟩, by decide +kernel, by decide⟩
theorem ml_X0_104 : Cond.methodLink RX0 104 yX0_tryImps ∈ TT := tt_t (tm5 (List.mem_of_getElem? (i := 224) rfl)) rfl
theorem im_X0_tryImps : Cond.instanceMethod yX0_tryImps ∈ TT := tt_t (tm5 (List.mem_of_getElem? (i := 226) rfl)) rfl
theorem mw_X0_tryImps : MW yX0_tryImps cX0_tryImps 12 2 (some .long) := ⟨tt_t (tm5 (List.mem_of_getElem? (i := 227) rfl)) rfl, ini_X0, ⟨by decide, by decide⟩, by decide +kernel, by decide⟩
theorem ml_X0_111 : Cond.methodLink RX0 111 yX0_mattering ∈ TT := tt_t (tm5 (List.mem_of_getElem? (i := 228) rfl)) rfl
theorem im_X0_mattering : Cond.instanceMethod yX0_mattering ∈ TT := tt_t (tm5 (List.mem_of_getElem? (i := 230) rfl)) rfl
theorem mw_X0_mattering : MW yX0_mattering cX0_mattering 6 1 (some .long) := ⟨tt_t (tm5 (List.mem_of_getElem? (i := 231) rfl)) rfl, ini_X0, ⟨by decide, by decide⟩, by decide +kernel, by decide⟩
theorem ml_X0_107 : Cond.methodLink RX0 107 yX0_remember ∈ TT := tt_t (tm5 (List.mem_of_getElem? (i := 232) rfl)) rfl
theorem im_X0_remember : Cond.instanceMethod yX0_remember ∈ TT := tt_t (tm5 (List.mem_of_getElem? (i := 234) rfl)) rfl
theorem mw_X0_remember : MW yX0_remember cX0_remember 6 2 none := ⟨tt_t (tm5 (List.mem_of_getElem? (i := 235) rfl)) rfl, ini_X0, ⟨by decide, by decide⟩, by decide +kernel, by decide⟩
theorem ml_L_115 : Cond.methodLink RL 115 yX10_bySide ∈ TT := tt_t (tm5 (List.mem_of_getElem? (i := 236) rfl)) rfl
theorem im_X10_bySide : Cond.instanceMethod yX10_bySide ∈ TT := tt_t (tm5 (List.mem_of_getElem? (i := 237) rfl)) rfl
theorem se_X10_bySide : Cond.selects RX10 yX10_bySide yX10_bySide ∈ TT := tt_t (tm5 (List.mem_of_getElem? (i := 238) rfl)) rfl
theorem mw_X10_bySide : MW yX10_bySide cX10_bySide 2 1 (some .int) := ⟨tt_t (tm5 (List.mem_of_getElem? (i := 239) rfl)) rfl, ini_X10, ⟨by decide, by decide⟩, by decide +kernel, by decide⟩
theorem ml_X10_312 : Cond.methodLink RX10 312 yX1_leftOf ∈ TT := tt_t (tm6 (List.mem_of_getElem? (i := 0) rfl)) rfl
theorem ml_X10_315 : Cond.methodLink RX10 315 yX1_rightOf ∈ TT := tt_t (tm6 (List.mem_of_getElem? (i := 1) rfl)) rfl
theorem ml_L_119 : Cond.methodLink RL 119 yX10_classical ∈ TT := tt_t (tm6 (List.mem_of_getElem? (i := 2) rfl)) rfl
theorem im_X10_classical : Cond.instanceMethod yX10_classical ∈ TT := tt_t (tm6 (List.mem_of_getElem? (i := 3) rfl)) rfl
theorem se_X10_classical : Cond.selects RX10 yX10_classical yX10_classical ∈ TT := tt_t (tm6 (List.mem_of_getElem? (i := 4) rfl)) rfl
theorem mw_X10_classical : MW yX10_classical cX10_classical 1 0 (some .int) := ⟨tt_t (tm6 (List.mem_of_getElem? (i := 5) rfl)) rfl, ini_X10, ⟨by decide, by decide⟩, by decide +kernel, by decide⟩
theorem ml_X10_329 : Cond.methodLink RX10 329 yX10_against ∈ TT := tt_t (tm6 (List.mem_of_getElem? (i := 6) rfl)) rfl
theorem im_X10_against : Cond.instanceMethod yX10_against ∈ TT := tt_t (tm6 (List.mem_of_getElem? (i := 7) rfl)) rfl
theorem se_X10_against : Cond.selects RX10 yX10_against yX10_against ∈ TT := tt_t (tm6 (List.mem_of_getElem? (i := 8) rfl)) rfl
theorem mw_X10_against : MW yX10_against cX10_against 1 0 (some .int) := ⟨tt_t (tm6 (List.mem_of_getElem? (i := 9) rfl)) rfl, ini_X10, ⟨by decide, by decide⟩, by decide +kernel, by decide⟩
theorem ml_X10_332 : Cond.methodLink RX10 332 yX5_leastAgainst ∈ TT := tt_t (tm6 (List.mem_of_getElem? (i := 10) rfl)) rfl
theorem im_X5_leastAgainst : Cond.instanceMethod yX5_leastAgainst ∈ TT := tt_t (tm6 (List.mem_of_getElem? (i := 11) rfl)) rfl
theorem se_X5_leastAgainst : Cond.selects RX5 yX5_leastAgainst yX5_leastAgainst ∈ TT := tt_t (tm6 (List.mem_of_getElem? (i := 12) rfl)) rfl
theorem mw_X5_leastAgainst : MW yX5_leastAgainst cX5_leastAgainst 7 2 (some .int) := ⟨tt_t (tm6 (List.mem_of_getElem? (i := 13) rfl)) rfl, ini_X5, ⟨by decide, by decide⟩, by decide +kernel, by decide⟩
theorem ml_X5_75 : Cond.methodLink RX5 75 yX5_fillTruths ∈ TT := tt_t (tm6 (List.mem_of_getElem? (i := 14) rfl)) rfl
theorem im_X5_fillTruths : Cond.instanceMethod yX5_fillTruths ∈ TT := tt_t (tm6 (List.mem_of_getElem? (i := 16) rfl)) rfl
theorem mw_X5_fillTruths : MW yX5_fillTruths cX5_fillTruths 3 1 none := ⟨tt_t (tm6 (List.mem_of_getElem? (i := 17) rfl)) rfl, ini_X5, ⟨by decide, by decide⟩, by decide +kernel, by decide⟩
theorem ml_X5_89 : Cond.methodLink RX5 89 yX5_truthOf ∈ TT := tt_t (tm6 (List.mem_of_getElem? (i := 18) rfl)) rfl
theorem im_X5_truthOf : Cond.instanceMethod yX5_truthOf ∈ TT := tt_t (tm6 (List.mem_of_getElem? (i := 20) rfl)) rfl
theorem mw_X5_truthOf : MW yX5_truthOf cX5_truthOf 4 2 (some .long) := ⟨tt_t (tm6 (List.mem_of_getElem? (i := 21) rfl)) rfl, ini_X5, ⟨by decide, by decide⟩, by decide +kernel, by decide⟩
theorem ml_X5_93 : Cond.methodLink RX5 93 yX5_kindAt ∈ TT := tt_t (tm6 (List.mem_of_getElem? (i := 22) rfl)) rfl
theorem ml_X5_96 : Cond.methodLink RX5 96 yX5_leftAt ∈ TT := tt_t (tm6 (List.mem_of_getElem? (i := 23) rfl)) rfl
theorem ml_X5_79 : Cond.methodLink RX5 79 yX5_truthAt ∈ TT := tt_t (tm6 (List.mem_of_getElem? (i := 24) rfl)) rfl
theorem im_X5_truthAt : Cond.instanceMethod yX5_truthAt ∈ TT := tt_t (tm6 (List.mem_of_getElem? (i := 26) rfl)) rfl
theorem mw_X5_truthAt : MW yX5_truthAt cX5_truthAt 2 1 (some .long) := ⟨tt_t (tm6 (List.mem_of_getElem? (i := 27) rfl)) rfl, ini_X5, ⟨by decide, by decide⟩, by decide +kernel, by decide⟩
theorem co_X5_83 : Cond.constantLong RX5 83 (-1) ∈ TT := tt_t (tm6 (List.mem_of_getElem? (i := 28) rfl)) rfl
theorem ml_X5_99 : Cond.methodLink RX5 99 yX5_rightAt ∈ TT := tt_t (tm6 (List.mem_of_getElem? (i := 29) rfl)) rfl
theorem sf_X5_102 : Cond.fieldLink RX5 102 RX5 "ATOM_PATTERNS" "[J" ∈ TT := tt_t (tm6 (List.mem_of_getElem? (i := 30) rfl)) rfl
theorem ml_X5_86 : Cond.methodLink RX5 86 yX2_formulaOf ∈ TT := tt_t (tm6 (List.mem_of_getElem? (i := 32) rfl)) rfl
theorem ml_L_123 : Cond.methodLink RL 123 yX10_against ∈ TT := tt_t (tm6 (List.mem_of_getElem? (i := 33) rfl)) rfl
theorem cl_L_10 : Cond.classLink RL 10 RX11 ∈ TT := tt_t (tm6 (List.mem_of_getElem? (i := 34) rfl)) rfl
theorem it_X11 : Cond.instantiable RX11 61 ∈ TT := tt_t (tm6 (List.mem_of_getElem? (i := 35) rfl)) rfl
theorem ml_L_12 : Cond.methodLink RL 12 yX11_init ∈ TT := tt_t (tm6 (List.mem_of_getElem? (i := 36) rfl)) rfl
theorem im_X11_init : Cond.instanceMethod yX11_init ∈ TT := tt_t (tm6 (List.mem_of_getElem? (i := 37) rfl)) rfl
theorem mw_X11_init : MW yX11_init cX11_init 1 0 none := ⟨tt_t (tm6 (List.mem_of_getElem? (i := 38) rfl)) rfl, ini_X11, ⟨by decide, by decide⟩, by decide +kernel, by decide⟩
theorem oi_X11 : Cond.methodLink RX11 7 Lib.objectInit ∈ TT := tt_t (tm6 (List.mem_of_getElem? (i := 39) rfl)) rfl
theorem co_X11_123 : Cond.constant RX11 123 (60000) ∈ TT := tt_t (tm6 (List.mem_of_getElem? (i := 40) rfl)) rfl
theorem ml_X11_127 : Cond.methodLink RX11 127 yX11_clears ∈ TT := tt_t (tm6 (List.mem_of_getElem? (i := 41) rfl)) rfl
theorem im_X11_clears : Cond.instanceMethod yX11_clears ∈ TT := tt_t (tm6 (List.mem_of_getElem? (i := 43) rfl)) rfl
theorem mw_X11_clears : MW yX11_clears cX11_clears 2 0 none := ⟨tt_t (tm6 (List.mem_of_getElem? (i := 44) rfl)) rfl, ini_X11, ⟨by decide, by decide⟩, by decide +kernel, by decide⟩
theorem ml_X11_130 : Cond.methodLink RX11 130 yX11_formula ∈ TT := tt_t (tm6 (List.mem_of_getElem? (i := 45) rfl)) rfl
theorem im_X11_formula : Cond.instanceMethod yX11_formula ∈ TT := tt_t (tm6 (List.mem_of_getElem? (i := 47) rfl)) rfl
theorem mw_X11_formula : MW yX11_formula cX11_formula 6 3 (some .int) := ⟨tt_t (tm6 (List.mem_of_getElem? (i := 48) rfl)) rfl, ini_X11, ⟨by decide, by decide⟩, by decide +kernel, by decide⟩
theorem ml_L_17 : Cond.methodLink RL 17 yX11_feed ∈ TT := tt_t (tm6 (List.mem_of_getElem? (i := 233) rfl)) rfl
theorem im_X11_feed : Cond.instanceMethod yX11_feed ∈ TT := tt_t (tm6 (List.mem_of_getElem? (i := 234) rfl)) rfl
theorem se_X11_feed : Cond.selects RX11 yX11_feed yX11_feed ∈ TT := tt_t (tm6 (List.mem_of_getElem? (i := 235) rfl)) rfl
theorem mw_X11_feed : MW yX11_feed cX11_feed 8 5 (some .int) := ⟨tt_t (tm6 (List.mem_of_getElem? (i := 236) rfl)) rfl, ini_X11, ⟨by decide, by decide⟩, by decide +kernel, by decide⟩
theorem ml_L_22 : Cond.methodLink RL 22 yX11_hypotheses ∈ TT := tt_t (tm6 (List.mem_of_getElem? (i := 237) rfl)) rfl
theorem im_X11_hypotheses : Cond.instanceMethod yX11_hypotheses ∈ TT := tt_t (tm6 (List.mem_of_getElem? (i := 238) rfl)) rfl
theorem se_X11_hypotheses : Cond.selects RX11 yX11_hypotheses yX11_hypotheses ∈ TT := tt_t (tm6 (List.mem_of_getElem? (i := 239) rfl)) rfl
theorem mw_X11_hypotheses : MW yX11_hypotheses cX11_hypotheses 3 1 (some .int) := ⟨tt_t (tm7 (List.mem_of_getElem? (i := 0) rfl)) rfl, ini_X11, ⟨by decide, by decide⟩, by decide +kernel, by decide⟩
theorem ml_X11_180 : Cond.methodLink RX11 180 yX11_isIn ∈ TT := tt_t (tm7 (List.mem_of_getElem? (i := 1) rfl)) rfl
theorem sm_X11_isIn : Cond.static yX11_isIn ∈ TT := tt_t (tm7 (List.mem_of_getElem? (i := 2) rfl)) rfl
theorem mw_X11_isIn : MW yX11_isIn cX11_isIn 6 3 (some .boolean) := ⟨tt_t (tm7 (List.mem_of_getElem? (i := 3) rfl)) rfl, ini_X11, ⟨by decide, by decide⟩, by decide +kernel, by decide⟩
theorem ml_X11_234 : Cond.methodLink RX11 234 yX11_begins ∈ TT := tt_t (tm7 (List.mem_of_getElem? (i := 4) rfl)) rfl
theorem im_X11_begins : Cond.instanceMethod yX11_begins ∈ TT := tt_t (tm7 (List.mem_of_getElem? (i := 6) rfl)) rfl
theorem mw_X11_begins : MW yX11_begins cX11_begins 2 1 none := ⟨tt_t (tm7 (List.mem_of_getElem? (i := 7) rfl)) rfl, ini_X11, ⟨by decide, by decide⟩, by decide +kernel, by decide⟩
theorem ml_X11_198 : Cond.methodLink RX11 198 yX11_tidies ∈ TT := tt_t (tm7 (List.mem_of_getElem? (i := 8) rfl)) rfl
theorem im_X11_tidies : Cond.instanceMethod yX11_tidies ∈ TT := tt_t (tm7 (List.mem_of_getElem? (i := 10) rfl)) rfl
theorem mw_X11_tidies : MW yX11_tidies cX11_tidies 4 0 none := ⟨tt_t (tm7 (List.mem_of_getElem? (i := 11) rfl)) rfl, ini_X11, ⟨by decide, by decide⟩, by decide +kernel, by decide⟩
theorem ml_X11_147 : Cond.methodLink RX11 147 yX11_marks ∈ TT := tt_t (tm7 (List.mem_of_getElem? (i := 12) rfl)) rfl
theorem im_X11_marks : Cond.instanceMethod yX11_marks ∈ TT := tt_t (tm7 (List.mem_of_getElem? (i := 14) rfl)) rfl
theorem mw_X11_marks : MW yX11_marks cX11_marks 2 1 none := ⟨tt_t (tm7 (List.mem_of_getElem? (i := 15) rfl)) rfl, ini_X11, ⟨by decide, by decide⟩, by decide +kernel, by decide⟩
theorem ml_X11_237 : Cond.methodLink RX11 237 yX11_isOver ∈ TT := tt_t (tm7 (List.mem_of_getElem? (i := 16) rfl)) rfl
theorem im_X11_isOver : Cond.instanceMethod yX11_isOver ∈ TT := tt_t (tm7 (List.mem_of_getElem? (i := 18) rfl)) rfl
theorem mw_X11_isOver : MW yX11_isOver cX11_isOver 1 0 (some .boolean) := ⟨tt_t (tm7 (List.mem_of_getElem? (i := 19) rfl)) rfl, ini_X11, ⟨by decide, by decide⟩, by decide +kernel, by decide⟩
theorem ml_X11_173 : Cond.methodLink RX11 173 yX11_blanks ∈ TT := tt_t (tm7 (List.mem_of_getElem? (i := 20) rfl)) rfl
theorem im_X11_blanks : Cond.instanceMethod yX11_blanks ∈ TT := tt_t (tm7 (List.mem_of_getElem? (i := 22) rfl)) rfl
theorem mw_X11_blanks : MW yX11_blanks cX11_blanks 1 0 none := ⟨tt_t (tm7 (List.mem_of_getElem? (i := 23) rfl)) rfl, ini_X11, ⟨by decide, by decide⟩, by decide +kernel, by decide⟩
theorem ml_X11_169 : Cond.methodLink RX11 169 yX11_peek ∈ TT := tt_t (tm7 (List.mem_of_getElem? (i := 24) rfl)) rfl
theorem im_X11_peek : Cond.instanceMethod yX11_peek ∈ TT := tt_t (tm7 (List.mem_of_getElem? (i := 26) rfl)) rfl
theorem mw_X11_peek : MW yX11_peek cX11_peek 1 0 (some .int) := ⟨tt_t (tm7 (List.mem_of_getElem? (i := 27) rfl)) rfl, ini_X11, ⟨by decide, by decide⟩, by decide +kernel, by decide⟩
theorem ml_X11_241 : Cond.methodLink RX11 241 yX11_readHypothesis ∈ TT := tt_t (tm7 (List.mem_of_getElem? (i := 28) rfl)) rfl
theorem im_X11_readHypothesis : Cond.instanceMethod yX11_readHypothesis ∈ TT := tt_t (tm7 (List.mem_of_getElem? (i := 30) rfl)) rfl
theorem mw_X11_readHypothesis : MW yX11_readHypothesis cX11_readHypothesis 5 0 none := ⟨tt_t (tm7 (List.mem_of_getElem? (i := 31) rfl)) rfl, ini_X11, ⟨by decide, by decide⟩, by decide +kernel, by decide⟩
theorem ml_X11_221 : Cond.methodLink RX11 221 yX11_nameHere ∈ TT := tt_t (tm7 (List.mem_of_getElem? (i := 32) rfl)) rfl
theorem im_X11_nameHere : Cond.instanceMethod yX11_nameHere ∈ TT := tt_t (tm7 (List.mem_of_getElem? (i := 34) rfl)) rfl
theorem mw_X11_nameHere : MW yX11_nameHere cX11_nameHere 3 0 (some .int) := ⟨tt_t (tm7 (List.mem_of_getElem? (i := 35) rfl)) rfl, ini_X11, ⟨by decide, by decide⟩, by decide +kernel, by decide⟩
theorem ml_X11_204 : Cond.methodLink RX11 204 yX11_wordNext ∈ TT := tt_t (tm7 (List.mem_of_getElem? (i := 36) rfl)) rfl
theorem im_X11_wordNext : Cond.instanceMethod yX11_wordNext ∈ TT := tt_t (tm7 (List.mem_of_getElem? (i := 38) rfl)) rfl
theorem mw_X11_wordNext : MW yX11_wordNext cX11_wordNext 7 0 (some .int) := ⟨tt_t (tm7 (List.mem_of_getElem? (i := 39) rfl)) rfl, ini_X11, ⟨by decide, by decide⟩, by decide +kernel, by decide⟩
theorem ml_X11_184 : Cond.methodLink RX11 184 yX11_lettersHere ∈ TT := tt_t (tm7 (List.mem_of_getElem? (i := 40) rfl)) rfl
theorem im_X11_lettersHere : Cond.instanceMethod yX11_lettersHere ∈ TT := tt_t (tm7 (List.mem_of_getElem? (i := 42) rfl)) rfl
theorem mw_X11_lettersHere : MW yX11_lettersHere cX11_lettersHere 2 0 (some .int) := ⟨tt_t (tm7 (List.mem_of_getElem? (i := 43) rfl)) rfl, ini_X11, ⟨by decide, by decide⟩, by decide +kernel, by decide⟩
theorem co_X11_176 : Cond.constantLong RX11 176 (97) ∈ TT := tt_t (tm7 (List.mem_of_getElem? (i := 44) rfl)) rfl
theorem co_X11_178 : Cond.constantLong RX11 178 (122) ∈ TT := tt_t (tm7 (List.mem_of_getElem? (i := 45) rfl)) rfl
theorem ml_X11_189 : Cond.methodLink RX11 189 yJ0_length_8abf5 ∈ TT := tt_t (tm7 (List.mem_of_getElem? (i := 47) rfl)) rfl
theorem im_J0_length_8abf5 : Cond.instanceMethod yJ0_length_8abf5 ∈ TT := tt_t (tm7 (List.mem_of_getElem? (i := 48) rfl)) rfl
theorem se_J0_length_8abf5 : Cond.selects RJ0 yJ0_length_8abf5 yJ0_length_8abf5 ∈ TT := tt_t (tm7 (List.mem_of_getElem? (i := 49) rfl)) rfl
theorem mw_J0_length_8abf5 : MW yJ0_length_8abf5 cJ0_length_8abf5 1 0 (some .int) := ⟨tt_t (tm7 (List.mem_of_getElem? (i := 50) rfl)) rfl, ini_J0, ⟨by decide, by decide⟩, by decide +kernel, by decide⟩
theorem ml_J0_335 : Cond.methodLink RJ0 335 yJ0_coder_7d493 ∈ TT := tt_t (tm7 (List.mem_of_getElem? (i := 51) rfl)) rfl
theorem im_J0_coder_7d493 : Cond.instanceMethod yJ0_coder_7d493 ∈ TT := tt_t (tm7 (List.mem_of_getElem? (i := 52) rfl)) rfl
theorem se_J0_coder_7d493 : Cond.selects RJ0 yJ0_coder_7d493 yJ0_coder_7d493 ∈ TT := tt_t (tm7 (List.mem_of_getElem? (i := 53) rfl)) rfl
theorem mw_J0_coder_7d493 : MW yJ0_coder_7d493 cJ0_coder_7d493 1 0 (some FieldType.byte) := ⟨tt_t (tm7 (List.mem_of_getElem? (i := 54) rfl)) rfl, ini_J0, ⟨by decide, by decide⟩, by decide +kernel, by decide⟩
theorem ml_X11_194 : Cond.methodLink RX11 194 yJ0_charAt_5068e ∈ TT := tt_t (tm7 (List.mem_of_getElem? (i := 55) rfl)) rfl
theorem co_X11_219 : Cond.constantLong RX11 219 (4) ∈ TT := tt_t (tm7 (List.mem_of_getElem? (i := 56) rfl)) rfl
theorem ml_X11_209 : Cond.methodLink RX11 209 yX11_fails ∈ TT := tt_t (tm7 (List.mem_of_getElem? (i := 57) rfl)) rfl
theorem im_X11_fails : Cond.instanceMethod yX11_fails ∈ TT := tt_t (tm7 (List.mem_of_getElem? (i := 59) rfl)) rfl
theorem mw_X11_fails : MW yX11_fails cX11_fails 3 2 none := ⟨tt_t (tm7 (List.mem_of_getElem? (i := 60) rfl)) rfl, ini_X11, ⟨by decide, by decide⟩, by decide +kernel, by decide⟩
theorem ml_X11_227 : Cond.methodLink RX11 227 yX11_isNamed ∈ TT := tt_t (tm7 (List.mem_of_getElem? (i := 61) rfl)) rfl
theorem im_X11_isNamed : Cond.instanceMethod yX11_isNamed ∈ TT := tt_t (tm7 (List.mem_of_getElem? (i := 63) rfl)) rfl
theorem mw_X11_isNamed : MW yX11_isNamed cX11_isNamed 7 4 (some .boolean) := ⟨tt_t (tm7 (List.mem_of_getElem? (i := 64) rfl)) rfl, ini_X11, ⟨by decide, by decide⟩, by decide +kernel, by decide⟩
theorem ml_X11_231 : Cond.methodLink RX11 231 yX11_formulaRead ∈ TT := tt_t (tm7 (List.mem_of_getElem? (i := 65) rfl)) rfl
theorem im_X11_formulaRead : Cond.instanceMethod yX11_formulaRead ∈ TT := tt_t (tm7 (List.mem_of_getElem? (i := 67) rfl)) rfl
theorem mw_X11_formulaRead : MW yX11_formulaRead cX11_formulaRead 1 0 (some .int) := ⟨tt_t (tm7 (List.mem_of_getElem? (i := 68) rfl)) rfl, ini_X11, ⟨by decide, by decide⟩, by decide +kernel, by decide⟩
theorem ml_X11_216 : Cond.methodLink RX11 216 yX11_readFormula ∈ TT := tt_t (tm7 (List.mem_of_getElem? (i := 69) rfl)) rfl
theorem im_X11_readFormula : Cond.instanceMethod yX11_readFormula ∈ TT := tt_t (tm7 (List.mem_of_getElem? (i := 71) rfl)) rfl
theorem mw_X11_readFormula : MW yX11_readFormula cX11_readFormula 4 0 (some .int) := ⟨tt_t (tm7 (List.mem_of_getElem? (i := 72) rfl)) rfl, ini_X11, ⟨by decide, by decide⟩, by decide +kernel, by decide⟩
theorem co_X11_207 : Cond.constantLong RX11 207 (12) ∈ TT := tt_t (tm7 (List.mem_of_getElem? (i := 73) rfl)) rfl
theorem ml_X11_244 : Cond.methodLink RX11 244 yX11_settles ∈ TT := tt_t (tm7 (List.mem_of_getElem? (i := 74) rfl)) rfl
theorem im_X11_settles : Cond.instanceMethod yX11_settles ∈ TT := tt_t (tm7 (List.mem_of_getElem? (i := 76) rfl)) rfl
theorem mw_X11_settles : MW yX11_settles cX11_settles 1 0 (some .int) := ⟨tt_t (tm7 (List.mem_of_getElem? (i := 77) rfl)) rfl, ini_X11, ⟨by decide, by decide⟩, by decide +kernel, by decide⟩
theorem ml_L_26 : Cond.methodLink RL 26 yX11_goal ∈ TT := tt_t (tm7 (List.mem_of_getElem? (i := 78) rfl)) rfl
theorem im_X11_goal : Cond.instanceMethod yX11_goal ∈ TT := tt_t (tm7 (List.mem_of_getElem? (i := 79) rfl)) rfl
theorem se_X11_goal : Cond.selects RX11 yX11_goal yX11_goal ∈ TT := tt_t (tm7 (List.mem_of_getElem? (i := 80) rfl)) rfl
theorem mw_X11_goal : MW yX11_goal cX11_goal 3 1 (some .int) := ⟨tt_t (tm7 (List.mem_of_getElem? (i := 81) rfl)) rfl, ini_X11, ⟨by decide, by decide⟩, by decide +kernel, by decide⟩
theorem ml_L_31 : Cond.methodLink RL 31 yX11_proof ∈ TT := tt_t (tm7 (List.mem_of_getElem? (i := 82) rfl)) rfl
theorem im_X11_proof : Cond.instanceMethod yX11_proof ∈ TT := tt_t (tm7 (List.mem_of_getElem? (i := 83) rfl)) rfl
theorem se_X11_proof : Cond.selects RX11 yX11_proof yX11_proof ∈ TT := tt_t (tm7 (List.mem_of_getElem? (i := 84) rfl)) rfl
theorem mw_X11_proof : MW yX11_proof cX11_proof 3 2 (some .int) := ⟨tt_t (tm7 (List.mem_of_getElem? (i := 85) rfl)) rfl, ini_X11, ⟨by decide, by decide⟩, by decide +kernel, by decide⟩
theorem ml_X11_271 : Cond.methodLink RX11 271 yX11_isSlot ∈ TT := tt_t (tm7 (List.mem_of_getElem? (i := 86) rfl)) rfl
theorem sm_X11_isSlot : Cond.static yX11_isSlot ∈ TT := tt_t (tm7 (List.mem_of_getElem? (i := 87) rfl)) rfl
theorem mw_X11_isSlot : MW yX11_isSlot cX11_isSlot 1 1 (some .boolean) := ⟨tt_t (tm7 (List.mem_of_getElem? (i := 88) rfl)) rfl, ini_X11, ⟨by decide, by decide⟩, by decide +kernel, by decide⟩
theorem co_X11_281 : Cond.constantLong RX11 281 (3) ∈ TT := tt_t (tm7 (List.mem_of_getElem? (i := 89) rfl)) rfl
theorem ml_X11_268 : Cond.methodLink RX11 268 yX11_readTerm ∈ TT := tt_t (tm7 (List.mem_of_getElem? (i := 90) rfl)) rfl
theorem im_X11_readTerm : Cond.instanceMethod yX11_readTerm ∈ TT := tt_t (tm7 (List.mem_of_getElem? (i := 92) rfl)) rfl
theorem mw_X11_readTerm : MW yX11_readTerm cX11_readTerm 7 0 none := ⟨tt_t (tm7 (List.mem_of_getElem? (i := 93) rfl)) rfl, ini_X11, ⟨by decide, by decide⟩, by decide +kernel, by decide⟩
theorem ml_X11_258 : Cond.methodLink RX11 258 yX11_readName0 ∈ TT := tt_t (tm7 (List.mem_of_getElem? (i := 94) rfl)) rfl
theorem im_X11_readName0 : Cond.instanceMethod yX11_readName0 ∈ TT := tt_t (tm7 (List.mem_of_getElem? (i := 96) rfl)) rfl
theorem mw_X11_readName0 : MW yX11_readName0 cX11_readName0 4 2 none := ⟨tt_t (tm7 (List.mem_of_getElem? (i := 97) rfl)) rfl, ini_X11, ⟨by decide, by decide⟩, by decide +kernel, by decide⟩
theorem ml_X11_250 : Cond.methodLink RX11 250 yX11_meant ∈ TT := tt_t (tm7 (List.mem_of_getElem? (i := 98) rfl)) rfl
theorem im_X11_meant : Cond.instanceMethod yX11_meant ∈ TT := tt_t (tm7 (List.mem_of_getElem? (i := 100) rfl)) rfl
theorem mw_X11_meant : MW yX11_meant cX11_meant 3 1 (some .int) := ⟨tt_t (tm7 (List.mem_of_getElem? (i := 101) rfl)) rfl, ini_X11, ⟨by decide, by decide⟩, by decide +kernel, by decide⟩
theorem ml_X11_254 : Cond.methodLink RX11 254 yX11_adds ∈ TT := tt_t (tm7 (List.mem_of_getElem? (i := 102) rfl)) rfl
theorem im_X11_adds : Cond.instanceMethod yX11_adds ∈ TT := tt_t (tm7 (List.mem_of_getElem? (i := 104) rfl)) rfl
theorem mw_X11_adds : MW yX11_adds cX11_adds 4 3 none := ⟨tt_t (tm7 (List.mem_of_getElem? (i := 105) rfl)) rfl, ini_X11, ⟨by decide, by decide⟩, by decide +kernel, by decide⟩
theorem co_X11_261 : Cond.constantLong RX11 261 (13) ∈ TT := tt_t (tm7 (List.mem_of_getElem? (i := 106) rfl)) rfl
theorem co_X11_263 : Cond.constantLong RX11 263 (21) ∈ TT := tt_t (tm7 (List.mem_of_getElem? (i := 107) rfl)) rfl
theorem ml_X11_265 : Cond.methodLink RX11 265 yX11_tells0 ∈ TT := tt_t (tm7 (List.mem_of_getElem? (i := 108) rfl)) rfl
theorem im_X11_tells0 : Cond.instanceMethod yX11_tells0 ∈ TT := tt_t (tm7 (List.mem_of_getElem? (i := 110) rfl)) rfl
theorem mw_X11_tells0 : MW yX11_tells0 cX11_tells0 3 0 none := ⟨tt_t (tm7 (List.mem_of_getElem? (i := 111) rfl)) rfl, ini_X11, ⟨by decide, by decide⟩, by decide +kernel, by decide⟩
theorem ml_X11_275 : Cond.methodLink RX11 275 yX11_proves ∈ TT := tt_t (tm7 (List.mem_of_getElem? (i := 112) rfl)) rfl
theorem im_X11_proves : Cond.instanceMethod yX11_proves ∈ TT := tt_t (tm7 (List.mem_of_getElem? (i := 114) rfl)) rfl
theorem mw_X11_proves : MW yX11_proves cX11_proves 1 0 (some .int) := ⟨tt_t (tm7 (List.mem_of_getElem? (i := 115) rfl)) rfl, ini_X11, ⟨by decide, by decide⟩, by decide +kernel, by decide⟩
theorem ml_X11_286 : Cond.methodLink RX11 286 yX11_asks ∈ TT := tt_t (tm7 (List.mem_of_getElem? (i := 116) rfl)) rfl
theorem im_X11_asks : Cond.instanceMethod yX11_asks ∈ TT := tt_t (tm7 (List.mem_of_getElem? (i := 118) rfl)) rfl
theorem mw_X11_asks : MW yX11_asks cX11_asks 4 1 (some .int) := ⟨tt_t (tm7 (List.mem_of_getElem? (i := 119) rfl)) rfl, ini_X11, ⟨by decide, by decide⟩, by decide +kernel, by decide⟩
theorem ml_X11_289 : Cond.methodLink RX11 289 yX11_provenBy ∈ TT := tt_t (tm7 (List.mem_of_getElem? (i := 120) rfl)) rfl
theorem im_X11_provenBy : Cond.instanceMethod yX11_provenBy ∈ TT := tt_t (tm7 (List.mem_of_getElem? (i := 122) rfl)) rfl
theorem mw_X11_provenBy : MW yX11_provenBy cX11_provenBy 11 2 (some .int) := ⟨tt_t (tm7 (List.mem_of_getElem? (i := 123) rfl)) rfl, ini_X11, ⟨by decide, by decide⟩, by decide +kernel, by decide⟩
theorem ml_X11_293 : Cond.methodLink RX11 293 yX11_isNot ∈ TT := tt_t (tm7 (List.mem_of_getElem? (i := 124) rfl)) rfl
theorem im_X11_isNot : Cond.instanceMethod yX11_isNot ∈ TT := tt_t (tm7 (List.mem_of_getElem? (i := 126) rfl)) rfl
theorem mw_X11_isNot : MW yX11_isNot cX11_isNot 4 3 (some .boolean) := ⟨tt_t (tm7 (List.mem_of_getElem? (i := 127) rfl)) rfl, ini_X11, ⟨by decide, by decide⟩, by decide +kernel, by decide⟩
theorem ml_X11_278 : Cond.methodLink RX11 278 yX11_stores ∈ TT := tt_t (tm7 (List.mem_of_getElem? (i := 128) rfl)) rfl
theorem im_X11_stores : Cond.instanceMethod yX11_stores ∈ TT := tt_t (tm7 (List.mem_of_getElem? (i := 130) rfl)) rfl
theorem mw_X11_stores : MW yX11_stores cX11_stores 3 1 none := ⟨tt_t (tm7 (List.mem_of_getElem? (i := 131) rfl)) rfl, ini_X11, ⟨by decide, by decide⟩, by decide +kernel, by decide⟩
theorem ml_L_35 : Cond.methodLink RL 35 yX11_fault ∈ TT := tt_t (tm7 (List.mem_of_getElem? (i := 132) rfl)) rfl
theorem im_X11_fault : Cond.instanceMethod yX11_fault ∈ TT := tt_t (tm7 (List.mem_of_getElem? (i := 133) rfl)) rfl
theorem se_X11_fault : Cond.selects RX11 yX11_fault yX11_fault ∈ TT := tt_t (tm7 (List.mem_of_getElem? (i := 134) rfl)) rfl
theorem mw_X11_fault : MW yX11_fault cX11_fault 2 1 (some .int) := ⟨tt_t (tm7 (List.mem_of_getElem? (i := 135) rfl)) rfl, ini_X11, ⟨by decide, by decide⟩, by decide +kernel, by decide⟩
theorem ml_L_39 : Cond.methodLink RL 39 yX11_drop ∈ TT := tt_t (tm7 (List.mem_of_getElem? (i := 136) rfl)) rfl
theorem im_X11_drop : Cond.instanceMethod yX11_drop ∈ TT := tt_t (tm7 (List.mem_of_getElem? (i := 137) rfl)) rfl
theorem se_X11_drop : Cond.selects RX11 yX11_drop yX11_drop ∈ TT := tt_t (tm7 (List.mem_of_getElem? (i := 138) rfl)) rfl
theorem mw_X11_drop : MW yX11_drop cX11_drop 3 1 (some .int) := ⟨tt_t (tm7 (List.mem_of_getElem? (i := 139) rfl)) rfl, ini_X11, ⟨by decide, by decide⟩, by decide +kernel, by decide⟩
theorem ml_L_72 : Cond.methodLink RL 72 yX11_step ∈ TT := tt_t (tm7 (List.mem_of_getElem? (i := 140) rfl)) rfl
theorem im_X11_step : Cond.instanceMethod yX11_step ∈ TT := tt_t (tm7 (List.mem_of_getElem? (i := 141) rfl)) rfl
theorem se_X11_step : Cond.selects RX11 yX11_step yX11_step ∈ TT := tt_t (tm7 (List.mem_of_getElem? (i := 142) rfl)) rfl
theorem mw_X11_step : MW yX11_step cX11_step 3 1 (some .int) := ⟨tt_t (tm7 (List.mem_of_getElem? (i := 143) rfl)) rfl, ini_X11, ⟨by decide, by decide⟩, by decide +kernel, by decide⟩
theorem ml_X11_343 : Cond.methodLink RX11 343 yX11_isEmpty ∈ TT := tt_t (tm7 (List.mem_of_getElem? (i := 144) rfl)) rfl
theorem im_X11_isEmpty : Cond.instanceMethod yX11_isEmpty ∈ TT := tt_t (tm7 (List.mem_of_getElem? (i := 146) rfl)) rfl
theorem mw_X11_isEmpty : MW yX11_isEmpty cX11_isEmpty 2 1 (some .boolean) := ⟨tt_t (tm7 (List.mem_of_getElem? (i := 147) rfl)) rfl, ini_X11, ⟨by decide, by decide⟩, by decide +kernel, by decide⟩
theorem ml_X11_346 : Cond.methodLink RX11 346 yX11_takes ∈ TT := tt_t (tm7 (List.mem_of_getElem? (i := 148) rfl)) rfl
theorem im_X11_takes : Cond.instanceMethod yX11_takes ∈ TT := tt_t (tm7 (List.mem_of_getElem? (i := 150) rfl)) rfl
theorem mw_X11_takes : MW yX11_takes cX11_takes 3 1 none := ⟨tt_t (tm7 (List.mem_of_getElem? (i := 151) rfl)) rfl, ini_X11, ⟨by decide, by decide⟩, by decide +kernel, by decide⟩
theorem ml_X11_349 : Cond.methodLink RX11 349 yX11_steps ∈ TT := tt_t (tm7 (List.mem_of_getElem? (i := 152) rfl)) rfl
theorem im_X11_steps : Cond.instanceMethod yX11_steps ∈ TT := tt_t (tm7 (List.mem_of_getElem? (i := 154) rfl)) rfl
theorem mw_X11_steps : MW yX11_steps cX11_steps 7 0 (some .int) := ⟨tt_t (tm7 (List.mem_of_getElem? (i := 155) rfl)) rfl, ini_X11, ⟨by decide, by decide⟩, by decide +kernel, by decide⟩
theorem ml_X11_328 : Cond.methodLink RX11 328 yX11_firstRedex ∈ TT := tt_t (tm7 (List.mem_of_getElem? (i := 156) rfl)) rfl
theorem im_X11_firstRedex : Cond.instanceMethod yX11_firstRedex ∈ TT := tt_t (tm7 (List.mem_of_getElem? (i := 158) rfl)) rfl
theorem mw_X11_firstRedex : MW yX11_firstRedex cX11_firstRedex 2 0 (some .int) := ⟨tt_t (tm7 (List.mem_of_getElem? (i := 159) rfl)) rfl, ini_X11, ⟨by decide, by decide⟩, by decide +kernel, by decide⟩
theorem ml_X11_300 : Cond.methodLink RX11 300 yX11_redexAt ∈ TT := tt_t (tm7 (List.mem_of_getElem? (i := 160) rfl)) rfl
theorem im_X11_redexAt : Cond.instanceMethod yX11_redexAt ∈ TT := tt_t (tm7 (List.mem_of_getElem? (i := 162) rfl)) rfl
theorem mw_X11_redexAt : MW yX11_redexAt cX11_redexAt 4 1 (some .int) := ⟨tt_t (tm7 (List.mem_of_getElem? (i := 163) rfl)) rfl, ini_X11, ⟨by decide, by decide⟩, by decide +kernel, by decide⟩
theorem ml_X11_297 : Cond.methodLink RX11 297 yX11_arity ∈ TT := tt_t (tm7 (List.mem_of_getElem? (i := 164) rfl)) rfl
theorem sm_X11_arity : Cond.static yX11_arity ∈ TT := tt_t (tm7 (List.mem_of_getElem? (i := 165) rfl)) rfl
theorem mw_X11_arity : MW yX11_arity cX11_arity 1 1 (some .int) := ⟨tt_t (tm7 (List.mem_of_getElem? (i := 166) rfl)) rfl, ini_X11, ⟨by decide, by decide⟩, by decide +kernel, by decide⟩
theorem ml_X11_331 : Cond.methodLink RX11 331 yX11_asked ∈ TT := tt_t (tm7 (List.mem_of_getElem? (i := 167) rfl)) rfl
theorem im_X11_asked : Cond.instanceMethod yX11_asked ∈ TT := tt_t (tm7 (List.mem_of_getElem? (i := 169) rfl)) rfl
theorem mw_X11_asked : MW yX11_asked cX11_asked 1 0 (some .int) := ⟨tt_t (tm7 (List.mem_of_getElem? (i := 170) rfl)) rfl, ini_X11, ⟨by decide, by decide⟩, by decide +kernel, by decide⟩
theorem ml_X11_334 : Cond.methodLink RX11 334 yX11_willBe ∈ TT := tt_t (tm7 (List.mem_of_getElem? (i := 171) rfl)) rfl
theorem im_X11_willBe : Cond.instanceMethod yX11_willBe ∈ TT := tt_t (tm7 (List.mem_of_getElem? (i := 173) rfl)) rfl
theorem mw_X11_willBe : MW yX11_willBe cX11_willBe 5 2 (some .int) := ⟨tt_t (tm7 (List.mem_of_getElem? (i := 174) rfl)) rfl, ini_X11, ⟨by decide, by decide⟩, by decide +kernel, by decide⟩
theorem ml_X11_316 : Cond.methodLink RX11 316 yX11_nodesOf ∈ TT := tt_t (tm7 (List.mem_of_getElem? (i := 175) rfl)) rfl
theorem im_X11_nodesOf : Cond.instanceMethod yX11_nodesOf ∈ TT := tt_t (tm7 (List.mem_of_getElem? (i := 177) rfl)) rfl
theorem mw_X11_nodesOf : MW yX11_nodesOf cX11_nodesOf 2 1 (some .int) := ⟨tt_t (tm7 (List.mem_of_getElem? (i := 178) rfl)) rfl, ini_X11, ⟨by decide, by decide⟩, by decide +kernel, by decide⟩
theorem ml_X11_309 : Cond.methodLink RX11 309 yX11_behind ∈ TT := tt_t (tm7 (List.mem_of_getElem? (i := 179) rfl)) rfl
theorem im_X11_behind : Cond.instanceMethod yX11_behind ∈ TT := tt_t (tm7 (List.mem_of_getElem? (i := 181) rfl)) rfl
theorem mw_X11_behind : MW yX11_behind cX11_behind 4 1 (some .int) := ⟨tt_t (tm7 (List.mem_of_getElem? (i := 182) rfl)) rfl, ini_X11, ⟨by decide, by decide⟩, by decide +kernel, by decide⟩
theorem ml_X11_319 : Cond.methodLink RX11 319 yX11_inner ∈ TT := tt_t (tm7 (List.mem_of_getElem? (i := 183) rfl)) rfl
theorem im_X11_inner : Cond.instanceMethod yX11_inner ∈ TT := tt_t (tm7 (List.mem_of_getElem? (i := 185) rfl)) rfl
theorem mw_X11_inner : MW yX11_inner cX11_inner 5 2 (some .int) := ⟨tt_t (tm7 (List.mem_of_getElem? (i := 186) rfl)) rfl, ini_X11, ⟨by decide, by decide⟩, by decide +kernel, by decide⟩
theorem ml_X11_322 : Cond.methodLink RX11 322 yX11_withIn ∈ TT := tt_t (tm7 (List.mem_of_getElem? (i := 187) rfl)) rfl
theorem im_X11_withIn : Cond.instanceMethod yX11_withIn ∈ TT := tt_t (tm7 (List.mem_of_getElem? (i := 189) rfl)) rfl
theorem mw_X11_withIn : MW yX11_withIn cX11_withIn 4 3 (some .int) := ⟨tt_t (tm7 (List.mem_of_getElem? (i := 190) rfl)) rfl, ini_X11, ⟨by decide, by decide⟩, by decide +kernel, by decide⟩
theorem ml_X11_325 : Cond.methodLink RX11 325 yX11_timesIn ∈ TT := tt_t (tm7 (List.mem_of_getElem? (i := 191) rfl)) rfl
theorem im_X11_timesIn : Cond.instanceMethod yX11_timesIn ∈ TT := tt_t (tm7 (List.mem_of_getElem? (i := 193) rfl)) rfl
theorem mw_X11_timesIn : MW yX11_timesIn cX11_timesIn 6 2 (some .int) := ⟨tt_t (tm7 (List.mem_of_getElem? (i := 194) rfl)) rfl, ini_X11, ⟨by decide, by decide⟩, by decide +kernel, by decide⟩
theorem ml_X11_312 : Cond.methodLink RX11 312 yX11_copies ∈ TT := tt_t (tm7 (List.mem_of_getElem? (i := 195) rfl)) rfl
theorem im_X11_copies : Cond.instanceMethod yX11_copies ∈ TT := tt_t (tm7 (List.mem_of_getElem? (i := 197) rfl)) rfl
theorem mw_X11_copies : MW yX11_copies cX11_copies 6 4 none := ⟨tt_t (tm7 (List.mem_of_getElem? (i := 198) rfl)) rfl, ini_X11, ⟨by decide, by decide⟩, by decide +kernel, by decide⟩
theorem ml_X11_306 : Cond.methodLink RX11 306 yX11_writes ∈ TT := tt_t (tm7 (List.mem_of_getElem? (i := 199) rfl)) rfl
theorem im_X11_writes : Cond.instanceMethod yX11_writes ∈ TT := tt_t (tm7 (List.mem_of_getElem? (i := 201) rfl)) rfl
theorem mw_X11_writes : MW yX11_writes cX11_writes 3 2 none := ⟨tt_t (tm7 (List.mem_of_getElem? (i := 202) rfl)) rfl, ini_X11, ⟨by decide, by decide⟩, by decide +kernel, by decide⟩
theorem ml_X11_337 : Cond.methodLink RX11 337 yX11_puts ∈ TT := tt_t (tm7 (List.mem_of_getElem? (i := 203) rfl)) rfl
theorem im_X11_puts : Cond.instanceMethod yX11_puts ∈ TT := tt_t (tm7 (List.mem_of_getElem? (i := 205) rfl)) rfl
theorem mw_X11_puts : MW yX11_puts cX11_puts 7 3 none := ⟨tt_t (tm7 (List.mem_of_getElem? (i := 206) rfl)) rfl, ini_X11, ⟨by decide, by decide⟩, by decide +kernel, by decide⟩
theorem ml_X11_340 : Cond.methodLink RX11 340 yX11_turns ∈ TT := tt_t (tm7 (List.mem_of_getElem? (i := 207) rfl)) rfl
theorem im_X11_turns : Cond.instanceMethod yX11_turns ∈ TT := tt_t (tm7 (List.mem_of_getElem? (i := 209) rfl)) rfl
theorem mw_X11_turns : MW yX11_turns cX11_turns 2 0 none := ⟨tt_t (tm7 (List.mem_of_getElem? (i := 210) rfl)) rfl, ini_X11, ⟨by decide, by decide⟩, by decide +kernel, by decide⟩
theorem ml_L_76 : Cond.methodLink RL 76 yX11_normal ∈ TT := tt_t (tm7 (List.mem_of_getElem? (i := 211) rfl)) rfl
theorem im_X11_normal : Cond.instanceMethod yX11_normal ∈ TT := tt_t (tm7 (List.mem_of_getElem? (i := 212) rfl)) rfl
theorem se_X11_normal : Cond.selects RX11 yX11_normal yX11_normal ∈ TT := tt_t (tm7 (List.mem_of_getElem? (i := 213) rfl)) rfl
theorem mw_X11_normal : MW yX11_normal cX11_normal 4 1 (some .int) := ⟨tt_t (tm7 (List.mem_of_getElem? (i := 214) rfl)) rfl, ini_X11, ⟨by decide, by decide⟩, by decide +kernel, by decide⟩
theorem ml_X11_355 : Cond.methodLink RX11 355 yX11_normalize ∈ TT := tt_t (tm7 (List.mem_of_getElem? (i := 215) rfl)) rfl
theorem im_X11_normalize : Cond.instanceMethod yX11_normalize ∈ TT := tt_t (tm7 (List.mem_of_getElem? (i := 217) rfl)) rfl
theorem mw_X11_normalize : MW yX11_normalize cX11_normalize 2 0 (some .int) := ⟨tt_t (tm7 (List.mem_of_getElem? (i := 218) rfl)) rfl, ini_X11, ⟨by decide, by decide⟩, by decide +kernel, by decide⟩
theorem ml_L_80 : Cond.methodLink RL 80 yX11_trace ∈ TT := tt_t (tm7 (List.mem_of_getElem? (i := 219) rfl)) rfl
theorem im_X11_trace : Cond.instanceMethod yX11_trace ∈ TT := tt_t (tm7 (List.mem_of_getElem? (i := 220) rfl)) rfl
theorem se_X11_trace : Cond.selects RX11 yX11_trace yX11_trace ∈ TT := tt_t (tm7 (List.mem_of_getElem? (i := 221) rfl)) rfl
theorem mw_X11_trace : MW yX11_trace cX11_trace 2 1 (some .int) := ⟨tt_t (tm7 (List.mem_of_getElem? (i := 222) rfl)) rfl, ini_X11, ⟨by decide, by decide⟩, by decide +kernel, by decide⟩
theorem ml_L_85 : Cond.methodLink RL 85 yX11_cut ∈ TT := tt_t (tm7 (List.mem_of_getElem? (i := 223) rfl)) rfl
theorem im_X11_cut : Cond.instanceMethod yX11_cut ∈ TT := tt_t (tm7 (List.mem_of_getElem? (i := 224) rfl)) rfl
theorem se_X11_cut : Cond.selects RX11 yX11_cut yX11_cut ∈ TT := tt_t (tm7 (List.mem_of_getElem? (i := 225) rfl)) rfl
theorem mw_X11_cut : MW yX11_cut cX11_cut 11 4 (some .int) := ⟨tt_t (tm7 (List.mem_of_getElem? (i := 226) rfl)) rfl, ini_X11, ⟨by decide, by decide⟩, by decide +kernel, by decide⟩
theorem ml_L_56 : Cond.methodLink RL 56 yX11_spell ∈ TT := tt_t (tm7 (List.mem_of_getElem? (i := 227) rfl)) rfl
theorem im_X11_spell : Cond.instanceMethod yX11_spell ∈ TT := tt_t (tm7 (List.mem_of_getElem? (i := 228) rfl)) rfl
theorem se_X11_spell : Cond.selects RX11 yX11_spell yX11_spell ∈ TT := tt_t (tm7 (List.mem_of_getElem? (i := 229) rfl)) rfl
theorem mw_X11_spell : MW yX11_spell cX11_spell 4 3 (some .int) := ⟨tt_t (tm7 (List.mem_of_getElem? (i := 230) rfl)) rfl, ini_X11, ⟨by decide, by decide⟩, by decide +kernel, by decide⟩
theorem co_X11_392 : Cond.constantLong RX11 392 (2) ∈ TT := tt_t (tm7 (List.mem_of_getElem? (i := 231) rfl)) rfl
theorem ml_X11_394 : Cond.methodLink RX11 394 yX11_tellsSlot ∈ TT := tt_t (tm7 (List.mem_of_getElem? (i := 232) rfl)) rfl
theorem im_X11_tellsSlot : Cond.instanceMethod yX11_tellsSlot ∈ TT := tt_t (tm7 (List.mem_of_getElem? (i := 234) rfl)) rfl
theorem mw_X11_tellsSlot : MW yX11_tellsSlot cX11_tellsSlot 4 3 none := ⟨tt_t (tm7 (List.mem_of_getElem? (i := 235) rfl)) rfl, ini_X11, ⟨by decide, by decide⟩, by decide +kernel, by decide⟩
theorem ml_X11_389 : Cond.methodLink RX11 389 yX11_begins0 ∈ TT := tt_t (tm7 (List.mem_of_getElem? (i := 236) rfl)) rfl
theorem im_X11_begins0 : Cond.instanceMethod yX11_begins0 ∈ TT := tt_t (tm7 (List.mem_of_getElem? (i := 238) rfl)) rfl
theorem mw_X11_begins0 : MW yX11_begins0 cX11_begins0 2 1 none := ⟨tt_t (tm7 (List.mem_of_getElem? (i := 239) rfl)) rfl, ini_X11, ⟨by decide, by decide⟩, by decide +kernel, by decide⟩
theorem ml_X11_385 : Cond.methodLink RX11 385 yX11_tellsTerm ∈ TT := tt_t (tm8 (List.mem_of_getElem? (i := 0) rfl)) rfl
theorem im_X11_tellsTerm : Cond.instanceMethod yX11_tellsTerm ∈ TT := tt_t (tm8 (List.mem_of_getElem? (i := 2) rfl)) rfl
theorem mw_X11_tellsTerm : MW yX11_tellsTerm cX11_tellsTerm 5 2 none := ⟨tt_t (tm8 (List.mem_of_getElem? (i := 3) rfl)) rfl, ini_X11, ⟨by decide, by decide⟩, by decide +kernel, by decide⟩
theorem ml_X11_379 : Cond.methodLink RX11 379 yX11_tellsHypothesis ∈ TT := tt_t (tm8 (List.mem_of_getElem? (i := 4) rfl)) rfl
theorem im_X11_tellsHypothesis : Cond.instanceMethod yX11_tellsHypothesis ∈ TT := tt_t (tm8 (List.mem_of_getElem? (i := 6) rfl)) rfl
theorem mw_X11_tellsHypothesis : MW yX11_tellsHypothesis cX11_tellsHypothesis 3 1 none := ⟨tt_t (tm8 (List.mem_of_getElem? (i := 7) rfl)) rfl, ini_X11, ⟨by decide, by decide⟩, by decide +kernel, by decide⟩
theorem ml_X11_370 : Cond.methodLink RX11 370 yX11_tells ∈ TT := tt_t (tm8 (List.mem_of_getElem? (i := 8) rfl)) rfl
theorem im_X11_tells : Cond.instanceMethod yX11_tells ∈ TT := tt_t (tm8 (List.mem_of_getElem? (i := 10) rfl)) rfl
theorem mw_X11_tells : MW yX11_tells cX11_tells 2 1 none := ⟨tt_t (tm8 (List.mem_of_getElem? (i := 11) rfl)) rfl, ini_X11, ⟨by decide, by decide⟩, by decide +kernel, by decide⟩
theorem ml_X11_382 : Cond.methodLink RX11 382 yX11_tellsLevel ∈ TT := tt_t (tm8 (List.mem_of_getElem? (i := 12) rfl)) rfl
theorem im_X11_tellsLevel : Cond.instanceMethod yX11_tellsLevel ∈ TT := tt_t (tm8 (List.mem_of_getElem? (i := 14) rfl)) rfl
theorem mw_X11_tellsLevel : MW yX11_tellsLevel cX11_tellsLevel 4 1 none := ⟨tt_t (tm8 (List.mem_of_getElem? (i := 15) rfl)) rfl, ini_X11, ⟨by decide, by decide⟩, by decide +kernel, by decide⟩
theorem ml_X11_373 : Cond.methodLink RX11 373 yX11_tellsWord ∈ TT := tt_t (tm8 (List.mem_of_getElem? (i := 16) rfl)) rfl
theorem im_X11_tellsWord : Cond.instanceMethod yX11_tellsWord ∈ TT := tt_t (tm8 (List.mem_of_getElem? (i := 18) rfl)) rfl
theorem mw_X11_tellsWord : MW yX11_tellsWord cX11_tellsWord 4 1 none := ⟨tt_t (tm8 (List.mem_of_getElem? (i := 19) rfl)) rfl, ini_X11, ⟨by decide, by decide⟩, by decide +kernel, by decide⟩
theorem ml_X11_376 : Cond.methodLink RX11 376 yX11_tellsFormula ∈ TT := tt_t (tm8 (List.mem_of_getElem? (i := 20) rfl)) rfl
theorem im_X11_tellsFormula : Cond.instanceMethod yX11_tellsFormula ∈ TT := tt_t (tm8 (List.mem_of_getElem? (i := 22) rfl)) rfl
theorem mw_X11_tellsFormula : MW yX11_tellsFormula cX11_tellsFormula 2 1 none := ⟨tt_t (tm8 (List.mem_of_getElem? (i := 23) rfl)) rfl, ini_X11, ⟨by decide, by decide⟩, by decide +kernel, by decide⟩
theorem ml_L_60 : Cond.methodLink RL 60 yX11_length ∈ TT := tt_t (tm8 (List.mem_of_getElem? (i := 24) rfl)) rfl
theorem im_X11_length : Cond.instanceMethod yX11_length ∈ TT := tt_t (tm8 (List.mem_of_getElem? (i := 25) rfl)) rfl
theorem se_X11_length : Cond.selects RX11 yX11_length yX11_length ∈ TT := tt_t (tm8 (List.mem_of_getElem? (i := 26) rfl)) rfl
theorem mw_X11_length : MW yX11_length cX11_length 3 2 (some .int) := ⟨tt_t (tm8 (List.mem_of_getElem? (i := 27) rfl)) rfl, ini_X11, ⟨by decide, by decide⟩, by decide +kernel, by decide⟩
theorem ml_L_48 : Cond.methodLink RL 48 yX11_hypothesis ∈ TT := tt_t (tm8 (List.mem_of_getElem? (i := 28) rfl)) rfl
theorem im_X11_hypothesis : Cond.instanceMethod yX11_hypothesis ∈ TT := tt_t (tm8 (List.mem_of_getElem? (i := 29) rfl)) rfl
theorem se_X11_hypothesis : Cond.selects RX11 yX11_hypothesis yX11_hypothesis ∈ TT := tt_t (tm8 (List.mem_of_getElem? (i := 30) rfl)) rfl
theorem mw_X11_hypothesis : MW yX11_hypothesis cX11_hypothesis 4 3 (some .int) := ⟨tt_t (tm8 (List.mem_of_getElem? (i := 31) rfl)) rfl, ini_X11, ⟨by decide, by decide⟩, by decide +kernel, by decide⟩
theorem ml_L_52 : Cond.methodLink RL 52 yX11_goalByte ∈ TT := tt_t (tm8 (List.mem_of_getElem? (i := 32) rfl)) rfl
theorem im_X11_goalByte : Cond.instanceMethod yX11_goalByte ∈ TT := tt_t (tm8 (List.mem_of_getElem? (i := 33) rfl)) rfl
theorem se_X11_goalByte : Cond.selects RX11 yX11_goalByte yX11_goalByte ∈ TT := tt_t (tm8 (List.mem_of_getElem? (i := 34) rfl)) rfl
theorem mw_X11_goalByte : MW yX11_goalByte cX11_goalByte 2 1 (some .int) := ⟨tt_t (tm8 (List.mem_of_getElem? (i := 35) rfl)) rfl, ini_X11, ⟨by decide, by decide⟩, by decide +kernel, by decide⟩
theorem ml_L_43 : Cond.methodLink RL 43 yX11_count ∈ TT := tt_t (tm8 (List.mem_of_getElem? (i := 36) rfl)) rfl
theorem im_X11_count : Cond.instanceMethod yX11_count ∈ TT := tt_t (tm8 (List.mem_of_getElem? (i := 37) rfl)) rfl
theorem se_X11_count : Cond.selects RX11 yX11_count yX11_count ∈ TT := tt_t (tm8 (List.mem_of_getElem? (i := 38) rfl)) rfl
theorem mw_X11_count : MW yX11_count cX11_count 4 1 (some .int) := ⟨tt_t (tm8 (List.mem_of_getElem? (i := 39) rfl)) rfl, ini_X11, ⟨by decide, by decide⟩, by decide +kernel, by decide⟩
theorem ml_L_64 : Cond.methodLink RL 64 yX11_size ∈ TT := tt_t (tm8 (List.mem_of_getElem? (i := 40) rfl)) rfl
theorem im_X11_size : Cond.instanceMethod yX11_size ∈ TT := tt_t (tm8 (List.mem_of_getElem? (i := 41) rfl)) rfl
theorem se_X11_size : Cond.selects RX11 yX11_size yX11_size ∈ TT := tt_t (tm8 (List.mem_of_getElem? (i := 42) rfl)) rfl
theorem mw_X11_size : MW yX11_size cX11_size 5 2 (some .int) := ⟨tt_t (tm8 (List.mem_of_getElem? (i := 43) rfl)) rfl, ini_X11, ⟨by decide, by decide⟩, by decide +kernel, by decide⟩
theorem co_X11_400 : Cond.constantLong RX11 400 (6) ∈ TT := tt_t (tm8 (List.mem_of_getElem? (i := 44) rfl)) rfl
theorem ml_X11_402 : Cond.methodLink RX11 402 yX11_deepest ∈ TT := tt_t (tm8 (List.mem_of_getElem? (i := 45) rfl)) rfl
theorem im_X11_deepest : Cond.instanceMethod yX11_deepest ∈ TT := tt_t (tm8 (List.mem_of_getElem? (i := 47) rfl)) rfl
theorem mw_X11_deepest : MW yX11_deepest cX11_deepest 1 0 (some .int) := ⟨tt_t (tm8 (List.mem_of_getElem? (i := 48) rfl)) rfl, ini_X11, ⟨by decide, by decide⟩, by decide +kernel, by decide⟩
theorem ml_X11_397 : Cond.methodLink RX11 397 yX11_deepestFrom ∈ TT := tt_t (tm8 (List.mem_of_getElem? (i := 49) rfl)) rfl
theorem im_X11_deepestFrom : Cond.instanceMethod yX11_deepestFrom ∈ TT := tt_t (tm8 (List.mem_of_getElem? (i := 51) rfl)) rfl
theorem mw_X11_deepestFrom : MW yX11_deepestFrom cX11_deepestFrom 5 0 (some .int) := ⟨tt_t (tm8 (List.mem_of_getElem? (i := 52) rfl)) rfl, ini_X11, ⟨by decide, by decide⟩, by decide +kernel, by decide⟩
theorem ml_X11_405 : Cond.methodLink RX11 405 yX11_unlike ∈ TT := tt_t (tm8 (List.mem_of_getElem? (i := 53) rfl)) rfl
theorem im_X11_unlike : Cond.instanceMethod yX11_unlike ∈ TT := tt_t (tm8 (List.mem_of_getElem? (i := 55) rfl)) rfl
theorem mw_X11_unlike : MW yX11_unlike cX11_unlike 5 1 (some .int) := ⟨tt_t (tm8 (List.mem_of_getElem? (i := 56) rfl)) rfl, ini_X11, ⟨by decide, by decide⟩, by decide +kernel, by decide⟩
theorem ml_L_68 : Cond.methodLink RL 68 yX11_redexes ∈ TT := tt_t (tm8 (List.mem_of_getElem? (i := 57) rfl)) rfl
theorem im_X11_redexes : Cond.instanceMethod yX11_redexes ∈ TT := tt_t (tm8 (List.mem_of_getElem? (i := 58) rfl)) rfl
theorem se_X11_redexes : Cond.selects RX11 yX11_redexes yX11_redexes ∈ TT := tt_t (tm8 (List.mem_of_getElem? (i := 59) rfl)) rfl
theorem mw_X11_redexes : MW yX11_redexes cX11_redexes 3 2 (some .int) := ⟨tt_t (tm8 (List.mem_of_getElem? (i := 60) rfl)) rfl, ini_X11, ⟨by decide, by decide⟩, by decide +kernel, by decide⟩
theorem co_X11_409 : Cond.constantLong RX11 409 (7) ∈ TT := tt_t (tm8 (List.mem_of_getElem? (i := 61) rfl)) rfl
theorem ml_X11_411 : Cond.methodLink RX11 411 yX11_redexesOf ∈ TT := tt_t (tm8 (List.mem_of_getElem? (i := 62) rfl)) rfl
theorem im_X11_redexesOf : Cond.instanceMethod yX11_redexesOf ∈ TT := tt_t (tm8 (List.mem_of_getElem? (i := 64) rfl)) rfl
theorem mw_X11_redexesOf : MW yX11_redexesOf cX11_redexesOf 5 1 (some .int) := ⟨tt_t (tm8 (List.mem_of_getElem? (i := 65) rfl)) rfl, ini_X11, ⟨by decide, by decide⟩, by decide +kernel, by decide⟩
theorem ml_L_89 : Cond.methodLink RL 89 yX11_lines ∈ TT := tt_t (tm8 (List.mem_of_getElem? (i := 66) rfl)) rfl
theorem im_X11_lines : Cond.instanceMethod yX11_lines ∈ TT := tt_t (tm8 (List.mem_of_getElem? (i := 67) rfl)) rfl
theorem se_X11_lines : Cond.selects RX11 yX11_lines yX11_lines ∈ TT := tt_t (tm8 (List.mem_of_getElem? (i := 68) rfl)) rfl
theorem mw_X11_lines : MW yX11_lines cX11_lines 2 1 (some .int) := ⟨tt_t (tm8 (List.mem_of_getElem? (i := 69) rfl)) rfl, ini_X11, ⟨by decide, by decide⟩, by decide +kernel, by decide⟩
theorem ml_X11_423 : Cond.methodLink RX11 423 yX11_laysLines ∈ TT := tt_t (tm8 (List.mem_of_getElem? (i := 70) rfl)) rfl
theorem im_X11_laysLines : Cond.instanceMethod yX11_laysLines ∈ TT := tt_t (tm8 (List.mem_of_getElem? (i := 72) rfl)) rfl
theorem mw_X11_laysLines : MW yX11_laysLines cX11_laysLines 5 1 none := ⟨tt_t (tm8 (List.mem_of_getElem? (i := 73) rfl)) rfl, ini_X11, ⟨by decide, by decide⟩, by decide +kernel, by decide⟩
theorem ml_X11_417 : Cond.methodLink RX11 417 yX11_line0 ∈ TT := tt_t (tm8 (List.mem_of_getElem? (i := 74) rfl)) rfl
theorem im_X11_line0 : Cond.instanceMethod yX11_line0 ∈ TT := tt_t (tm8 (List.mem_of_getElem? (i := 76) rfl)) rfl
theorem mw_X11_line0 : MW yX11_line0 cX11_line0 5 3 (some .int) := ⟨tt_t (tm8 (List.mem_of_getElem? (i := 77) rfl)) rfl, ini_X11, ⟨by decide, by decide⟩, by decide +kernel, by decide⟩
theorem ml_X11_420 : Cond.methodLink RX11 420 yX11_linesFrom ∈ TT := tt_t (tm8 (List.mem_of_getElem? (i := 78) rfl)) rfl
theorem im_X11_linesFrom : Cond.instanceMethod yX11_linesFrom ∈ TT := tt_t (tm8 (List.mem_of_getElem? (i := 80) rfl)) rfl
theorem mw_X11_linesFrom : MW yX11_linesFrom cX11_linesFrom 8 1 (some .int) := ⟨tt_t (tm8 (List.mem_of_getElem? (i := 81) rfl)) rfl, ini_X11, ⟨by decide, by decide⟩, by decide +kernel, by decide⟩
theorem ml_L_93 : Cond.methodLink RL 93 yX11_line ∈ TT := tt_t (tm8 (List.mem_of_getElem? (i := 82) rfl)) rfl
theorem im_X11_line : Cond.instanceMethod yX11_line ∈ TT := tt_t (tm8 (List.mem_of_getElem? (i := 83) rfl)) rfl
theorem se_X11_line : Cond.selects RX11 yX11_line yX11_line ∈ TT := tt_t (tm8 (List.mem_of_getElem? (i := 84) rfl)) rfl
theorem mw_X11_line : MW yX11_line cX11_line 4 3 (some .int) := ⟨tt_t (tm8 (List.mem_of_getElem? (i := 85) rfl)) rfl, ini_X11, ⟨by decide, by decide⟩, by decide +kernel, by decide⟩
theorem ml_L_97 : Cond.methodLink RL 97 yX11_lineByte ∈ TT := tt_t (tm8 (List.mem_of_getElem? (i := 86) rfl)) rfl
theorem im_X11_lineByte : Cond.instanceMethod yX11_lineByte ∈ TT := tt_t (tm8 (List.mem_of_getElem? (i := 87) rfl)) rfl
theorem se_X11_lineByte : Cond.selects RX11 yX11_lineByte yX11_lineByte ∈ TT := tt_t (tm8 (List.mem_of_getElem? (i := 88) rfl)) rfl
theorem mw_X11_lineByte : MW yX11_lineByte cX11_lineByte 4 3 (some .int) := ⟨tt_t (tm8 (List.mem_of_getElem? (i := 89) rfl)) rfl, ini_X11, ⟨by decide, by decide⟩, by decide +kernel, by decide⟩
theorem ml_L_101 : Cond.methodLink RL 101 yX11_equal ∈ TT := tt_t (tm8 (List.mem_of_getElem? (i := 90) rfl)) rfl
theorem im_X11_equal : Cond.instanceMethod yX11_equal ∈ TT := tt_t (tm8 (List.mem_of_getElem? (i := 91) rfl)) rfl
theorem se_X11_equal : Cond.selects RX11 yX11_equal yX11_equal ∈ TT := tt_t (tm8 (List.mem_of_getElem? (i := 92) rfl)) rfl
theorem mw_X11_equal : MW yX11_equal cX11_equal 4 2 (some .int) := ⟨tt_t (tm8 (List.mem_of_getElem? (i := 93) rfl)) rfl, ini_X11, ⟨by decide, by decide⟩, by decide +kernel, by decide⟩
theorem ml_X11_429 : Cond.methodLink RX11 429 yX11_keepsBeside ∈ TT := tt_t (tm8 (List.mem_of_getElem? (i := 94) rfl)) rfl
theorem im_X11_keepsBeside : Cond.instanceMethod yX11_keepsBeside ∈ TT := tt_t (tm8 (List.mem_of_getElem? (i := 96) rfl)) rfl
theorem mw_X11_keepsBeside : MW yX11_keepsBeside cX11_keepsBeside 2 0 none := ⟨tt_t (tm8 (List.mem_of_getElem? (i := 97) rfl)) rfl, ini_X11, ⟨by decide, by decide⟩, by decide +kernel, by decide⟩
theorem ml_X11_432 : Cond.methodLink RX11 432 yX11_isThen ∈ TT := tt_t (tm8 (List.mem_of_getElem? (i := 98) rfl)) rfl
theorem im_X11_isThen : Cond.instanceMethod yX11_isThen ∈ TT := tt_t (tm8 (List.mem_of_getElem? (i := 100) rfl)) rfl
theorem mw_X11_isThen : MW yX11_isThen cX11_isThen 3 0 (some .boolean) := ⟨tt_t (tm8 (List.mem_of_getElem? (i := 101) rfl)) rfl, ini_X11, ⟨by decide, by decide⟩, by decide +kernel, by decide⟩
theorem ml_L_105 : Cond.methodLink RL 105 yX11_alike ∈ TT := tt_t (tm8 (List.mem_of_getElem? (i := 102) rfl)) rfl
theorem im_X11_alike : Cond.instanceMethod yX11_alike ∈ TT := tt_t (tm8 (List.mem_of_getElem? (i := 103) rfl)) rfl
theorem se_X11_alike : Cond.selects RX11 yX11_alike yX11_alike ∈ TT := tt_t (tm8 (List.mem_of_getElem? (i := 104) rfl)) rfl
theorem mw_X11_alike : MW yX11_alike cX11_alike 5 2 (some .int) := ⟨tt_t (tm8 (List.mem_of_getElem? (i := 105) rfl)) rfl, ini_X11, ⟨by decide, by decide⟩, by decide +kernel, by decide⟩
theorem ml_L_109 : Cond.methodLink RL 109 yX11_side ∈ TT := tt_t (tm8 (List.mem_of_getElem? (i := 106) rfl)) rfl
theorem im_X11_side : Cond.instanceMethod yX11_side ∈ TT := tt_t (tm8 (List.mem_of_getElem? (i := 107) rfl)) rfl
theorem se_X11_side : Cond.selects RX11 yX11_side yX11_side ∈ TT := tt_t (tm8 (List.mem_of_getElem? (i := 108) rfl)) rfl
theorem mw_X11_side : MW yX11_side cX11_side 3 1 (some .int) := ⟨tt_t (tm8 (List.mem_of_getElem? (i := 109) rfl)) rfl, ini_X11, ⟨by decide, by decide⟩, by decide +kernel, by decide⟩
theorem ml_L_114 : Cond.methodLink RL 114 yX11_provable ∈ TT := tt_t (tm8 (List.mem_of_getElem? (i := 110) rfl)) rfl
theorem im_X11_provable : Cond.instanceMethod yX11_provable ∈ TT := tt_t (tm8 (List.mem_of_getElem? (i := 111) rfl)) rfl
theorem se_X11_provable : Cond.selects RX11 yX11_provable yX11_provable ∈ TT := tt_t (tm8 (List.mem_of_getElem? (i := 112) rfl)) rfl
theorem mw_X11_provable : MW yX11_provable cX11_provable 1 0 (some .int) := ⟨tt_t (tm8 (List.mem_of_getElem? (i := 113) rfl)) rfl, ini_X11, ⟨by decide, by decide⟩, by decide +kernel, by decide⟩
theorem ml_X11_453 : Cond.methodLink RX11 453 yX11_provableBy ∈ TT := tt_t (tm8 (List.mem_of_getElem? (i := 114) rfl)) rfl
theorem im_X11_provableBy : Cond.instanceMethod yX11_provableBy ∈ TT := tt_t (tm8 (List.mem_of_getElem? (i := 116) rfl)) rfl
theorem mw_X11_provableBy : MW yX11_provableBy cX11_provableBy 5 1 (some .int) := ⟨tt_t (tm8 (List.mem_of_getElem? (i := 117) rfl)) rfl, ini_X11, ⟨by decide, by decide⟩, by decide +kernel, by decide⟩
theorem ml_X11_435 : Cond.methodLink RX11 435 yX11_wordsOf ∈ TT := tt_t (tm8 (List.mem_of_getElem? (i := 118) rfl)) rfl
theorem im_X11_wordsOf : Cond.instanceMethod yX11_wordsOf ∈ TT := tt_t (tm8 (List.mem_of_getElem? (i := 120) rfl)) rfl
theorem mw_X11_wordsOf : MW yX11_wordsOf cX11_wordsOf 2 1 (some .int) := ⟨tt_t (tm8 (List.mem_of_getElem? (i := 121) rfl)) rfl, ini_X11, ⟨by decide, by decide⟩, by decide +kernel, by decide⟩
theorem ml_X11_444 : Cond.methodLink RX11 444 yX11_withHad ∈ TT := tt_t (tm8 (List.mem_of_getElem? (i := 122) rfl)) rfl
theorem im_X11_withHad : Cond.instanceMethod yX11_withHad ∈ TT := tt_t (tm8 (List.mem_of_getElem? (i := 124) rfl)) rfl
theorem mw_X11_withHad : MW yX11_withHad cX11_withHad 4 3 (some .int) := ⟨tt_t (tm8 (List.mem_of_getElem? (i := 125) rfl)) rfl, ini_X11, ⟨by decide, by decide⟩, by decide +kernel, by decide⟩
theorem ml_X11_438 : Cond.methodLink RX11 438 yX11_isHad ∈ TT := tt_t (tm8 (List.mem_of_getElem? (i := 126) rfl)) rfl
theorem im_X11_isHad : Cond.instanceMethod yX11_isHad ∈ TT := tt_t (tm8 (List.mem_of_getElem? (i := 128) rfl)) rfl
theorem mw_X11_isHad : MW yX11_isHad cX11_isHad 5 3 (some .boolean) := ⟨tt_t (tm8 (List.mem_of_getElem? (i := 129) rfl)) rfl, ini_X11, ⟨by decide, by decide⟩, by decide +kernel, by decide⟩
theorem ml_X11_447 : Cond.methodLink RX11 447 yX11_canProve ∈ TT := tt_t (tm8 (List.mem_of_getElem? (i := 130) rfl)) rfl
theorem im_X11_canProve : Cond.instanceMethod yX11_canProve ∈ TT := tt_t (tm8 (List.mem_of_getElem? (i := 132) rfl)) rfl
theorem mw_X11_canProve : MW yX11_canProve cX11_canProve 9 3 (some .boolean) := ⟨tt_t (tm8 (List.mem_of_getElem? (i := 133) rfl)) rfl, ini_X11, ⟨by decide, by decide⟩, by decide +kernel, by decide⟩
theorem ml_X11_441 : Cond.methodLink RX11 441 yX11_copiesHad ∈ TT := tt_t (tm8 (List.mem_of_getElem? (i := 134) rfl)) rfl
theorem im_X11_copiesHad : Cond.instanceMethod yX11_copiesHad ∈ TT := tt_t (tm8 (List.mem_of_getElem? (i := 136) rfl)) rfl
theorem mw_X11_copiesHad : MW yX11_copiesHad cX11_copiesHad 6 3 (some .int) := ⟨tt_t (tm8 (List.mem_of_getElem? (i := 137) rfl)) rfl, ini_X11, ⟨by decide, by decide⟩, by decide +kernel, by decide⟩
theorem ml_X11_450 : Cond.methodLink RX11 450 yX11_byOne ∈ TT := tt_t (tm8 (List.mem_of_getElem? (i := 138) rfl)) rfl
theorem im_X11_byOne : Cond.instanceMethod yX11_byOne ∈ TT := tt_t (tm8 (List.mem_of_getElem? (i := 140) rfl)) rfl
theorem mw_X11_byOne : MW yX11_byOne cX11_byOne 9 3 (some .boolean) := ⟨tt_t (tm8 (List.mem_of_getElem? (i := 141) rfl)) rfl, ini_X11, ⟨by decide, by decide⟩, by decide +kernel, by decide⟩
theorem ml_L_118 : Cond.methodLink RL 118 yX11_bySide ∈ TT := tt_t (tm8 (List.mem_of_getElem? (i := 142) rfl)) rfl
theorem im_X11_bySide : Cond.instanceMethod yX11_bySide ∈ TT := tt_t (tm8 (List.mem_of_getElem? (i := 143) rfl)) rfl
theorem se_X11_bySide : Cond.selects RX11 yX11_bySide yX11_bySide ∈ TT := tt_t (tm8 (List.mem_of_getElem? (i := 144) rfl)) rfl
theorem mw_X11_bySide : MW yX11_bySide cX11_bySide 2 1 (some .int) := ⟨tt_t (tm8 (List.mem_of_getElem? (i := 145) rfl)) rfl, ini_X11, ⟨by decide, by decide⟩, by decide +kernel, by decide⟩
theorem ml_L_122 : Cond.methodLink RL 122 yX11_classical ∈ TT := tt_t (tm8 (List.mem_of_getElem? (i := 146) rfl)) rfl
theorem im_X11_classical : Cond.instanceMethod yX11_classical ∈ TT := tt_t (tm8 (List.mem_of_getElem? (i := 147) rfl)) rfl
theorem se_X11_classical : Cond.selects RX11 yX11_classical yX11_classical ∈ TT := tt_t (tm8 (List.mem_of_getElem? (i := 148) rfl)) rfl
theorem mw_X11_classical : MW yX11_classical cX11_classical 1 0 (some .int) := ⟨tt_t (tm8 (List.mem_of_getElem? (i := 149) rfl)) rfl, ini_X11, ⟨by decide, by decide⟩, by decide +kernel, by decide⟩
theorem ml_X11_460 : Cond.methodLink RX11 460 yX11_againstNow ∈ TT := tt_t (tm8 (List.mem_of_getElem? (i := 150) rfl)) rfl
theorem im_X11_againstNow : Cond.instanceMethod yX11_againstNow ∈ TT := tt_t (tm8 (List.mem_of_getElem? (i := 152) rfl)) rfl
theorem mw_X11_againstNow : MW yX11_againstNow cX11_againstNow 4 0 (some .int) := ⟨tt_t (tm8 (List.mem_of_getElem? (i := 153) rfl)) rfl, ini_X11, ⟨by decide, by decide⟩, by decide +kernel, by decide⟩
theorem ml_X11_456 : Cond.methodLink RX11 456 yX11_isTrue ∈ TT := tt_t (tm8 (List.mem_of_getElem? (i := 154) rfl)) rfl
theorem im_X11_isTrue : Cond.instanceMethod yX11_isTrue ∈ TT := tt_t (tm8 (List.mem_of_getElem? (i := 156) rfl)) rfl
theorem mw_X11_isTrue : MW yX11_isTrue cX11_isTrue 3 2 (some .boolean) := ⟨tt_t (tm8 (List.mem_of_getElem? (i := 157) rfl)) rfl, ini_X11, ⟨by decide, by decide⟩, by decide +kernel, by decide⟩
theorem ml_L_126 : Cond.methodLink RL 126 yX11_against ∈ TT := tt_t (tm8 (List.mem_of_getElem? (i := 158) rfl)) rfl
theorem im_X11_against : Cond.instanceMethod yX11_against ∈ TT := tt_t (tm8 (List.mem_of_getElem? (i := 159) rfl)) rfl
theorem se_X11_against : Cond.selects RX11 yX11_against yX11_against ∈ TT := tt_t (tm8 (List.mem_of_getElem? (i := 160) rfl)) rfl
theorem mw_X11_against : MW yX11_against cX11_against 1 0 (some .int) := ⟨tt_t (tm8 (List.mem_of_getElem? (i := 161) rfl)) rfl, ini_X11, ⟨by decide, by decide⟩, by decide +kernel, by decide⟩
theorem sf_J0_15 : Cond.fieldLink RJ0 15 RJ0 "coder" "B" ∈ TT := tt_t (tm8 (List.mem_of_getElem? (i := 162) rfl)) rfl
theorem sf_J0_9 : Cond.fieldLink RJ0 9 RJ0 "value" "[B" ∈ TT := tt_t (tm8 (List.mem_of_getElem? (i := 163) rfl)) rfl
theorem se_X10_putBytes : Cond.selects RX10 yX10_putBytes yX10_putBytes ∈ TT := tt_p (pv1 (List.mem_of_getElem? (i := 0) rfl))
theorem se_X10_tapeLacks : Cond.selects RX10 yX10_tapeLacks yX10_tapeLacks ∈ TT := tt_p (pv1 (List.mem_of_getElem? (i := 1) rfl))
theorem se_X6_begin : Cond.selects RX6 yX6_begin yX6_begin ∈ TT := tt_p (pv1 (List.mem_of_getElem? (i := 2) rfl))
theorem se_X6_advance : Cond.selects RX6 yX6_advance yX6_advance ∈ TT := tt_p (pv1 (List.mem_of_getElem? (i := 3) rfl))
theorem se_X6_codeOf : Cond.selects RX6 yX6_codeOf yX6_codeOf ∈ TT := tt_p (pv1 (List.mem_of_getElem? (i := 4) rfl))
theorem se_X6_readHypothesis : Cond.selects RX6 yX6_readHypothesis yX6_readHypothesis ∈ TT := tt_p (pv1 (List.mem_of_getElem? (i := 5) rfl))
theorem se_X6_atName : Cond.selects RX6 yX6_atName yX6_atName ∈ TT := tt_p (pv1 (List.mem_of_getElem? (i := 6) rfl))
theorem se_X6_wordLetters : Cond.selects RX6 yX6_wordLetters yX6_wordLetters ∈ TT := tt_p (pv1 (List.mem_of_getElem? (i := 7) rfl))
theorem se_X6_fail : Cond.selects RX6 yX6_fail yX6_fail ∈ TT := tt_p (pv1 (List.mem_of_getElem? (i := 8) rfl))
theorem se_X6_nameRead : Cond.selects RX6 yX6_nameRead yX6_nameRead ∈ TT := tt_p (pv1 (List.mem_of_getElem? (i := 9) rfl))
theorem se_X6_readFormula : Cond.selects RX6 yX6_readFormula yX6_readFormula ∈ TT := tt_p (pv1 (List.mem_of_getElem? (i := 10) rfl))
theorem se_X6_buildFormula : Cond.selects RX6 yX6_buildFormula yX6_buildFormula ∈ TT := tt_p (pv1 (List.mem_of_getElem? (i := 11) rfl))
theorem se_X6_readEnd : Cond.selects RX6 yX6_readEnd yX6_readEnd ∈ TT := tt_p (pv1 (List.mem_of_getElem? (i := 12) rfl))
theorem se_X6_push : Cond.selects RX6 yX6_push yX6_push ∈ TT := tt_p (pv1 (List.mem_of_getElem? (i := 13) rfl))
theorem se_X6_pop : Cond.selects RX6 yX6_pop yX6_pop ∈ TT := tt_p (pv1 (List.mem_of_getElem? (i := 14) rfl))
theorem se_X6_readWanted : Cond.selects RX6 yX6_readWanted yX6_readWanted ∈ TT := tt_p (pv1 (List.mem_of_getElem? (i := 15) rfl))
theorem se_X6_readBinder : Cond.selects RX6 yX6_readBinder yX6_readBinder ∈ TT := tt_p (pv2 (List.mem_of_getElem? (i := 0) rfl))
theorem se_X6_readFirstWord : Cond.selects RX6 yX6_readFirstWord yX6_readFirstWord ∈ TT := tt_p (pv2 (List.mem_of_getElem? (i := 1) rfl))
theorem se_X6_meaning : Cond.selects RX6 yX6_meaning yX6_meaning ∈ TT := tt_p (pv2 (List.mem_of_getElem? (i := 2) rfl))
theorem se_X6_wantRest : Cond.selects RX6 yX6_wantRest yX6_wantRest ∈ TT := tt_p (pv2 (List.mem_of_getElem? (i := 3) rfl))
theorem se_X6_wantBoundTerm : Cond.selects RX6 yX6_wantBoundTerm yX6_wantBoundTerm ∈ TT := tt_p (pv2 (List.mem_of_getElem? (i := 4) rfl))
theorem se_X3_placeChildren : Cond.selects RX3 yX3_placeChildren yX3_placeChildren ∈ TT := tt_p (pv2 (List.mem_of_getElem? (i := 5) rfl))
theorem se_X3_nestOf : Cond.selects RX3 yX3_nestOf yX3_nestOf ∈ TT := tt_p (pv2 (List.mem_of_getElem? (i := 6) rfl))
theorem se_X3_bind : Cond.selects RX3 yX3_bind yX3_bind ∈ TT := tt_p (pv2 (List.mem_of_getElem? (i := 7) rfl))
theorem se_X3_addToWalk : Cond.selects RX3 yX3_addToWalk yX3_addToWalk ∈ TT := tt_p (pv2 (List.mem_of_getElem? (i := 8) rfl))
theorem se_X3_walkOut : Cond.selects RX3 yX3_walkOut yX3_walkOut ∈ TT := tt_p (pv2 (List.mem_of_getElem? (i := 9) rfl))
theorem se_X3_unfitWithin : Cond.selects RX3 yX3_unfitWithin yX3_unfitWithin ∈ TT := tt_p (pv2 (List.mem_of_getElem? (i := 10) rfl))
theorem se_X3_provenBy : Cond.selects RX3 yX3_provenBy yX3_provenBy ∈ TT := tt_p (pv2 (List.mem_of_getElem? (i := 11) rfl))
theorem se_X10_fullSlots : Cond.selects RX10 yX10_fullSlots yX10_fullSlots ∈ TT := tt_p (pv2 (List.mem_of_getElem? (i := 12) rfl))
theorem se_X10_spellSlot : Cond.selects RX10 yX10_spellSlot yX10_spellSlot ∈ TT := tt_p (pv2 (List.mem_of_getElem? (i := 13) rfl))
theorem se_X8_putBlank : Cond.selects RX8 yX8_putBlank yX8_putBlank ∈ TT := tt_p (pv2 (List.mem_of_getElem? (i := 14) rfl))
theorem se_X8_wantsWithin : Cond.selects RX8 yX8_wantsWithin yX8_wantsWithin ∈ TT := tt_p (pv2 (List.mem_of_getElem? (i := 15) rfl))
theorem se_X8_putLevel : Cond.selects RX8 yX8_putLevel yX8_putLevel ∈ TT := tt_p (pv3 (List.mem_of_getElem? (i := 0) rfl))
theorem se_X8_putName : Cond.selects RX8 yX8_putName yX8_putName ∈ TT := tt_p (pv3 (List.mem_of_getElem? (i := 1) rfl))
theorem se_X8_putMeaning : Cond.selects RX8 yX8_putMeaning yX8_putMeaning ∈ TT := tt_p (pv3 (List.mem_of_getElem? (i := 2) rfl))
theorem se_X8_putWord : Cond.selects RX8 yX8_putWord yX8_putWord ∈ TT := tt_p (pv3 (List.mem_of_getElem? (i := 3) rfl))
theorem se_X10_sizeByFormulas : Cond.selects RX10 yX10_sizeByFormulas yX10_sizeByFormulas ∈ TT := tt_p (pv3 (List.mem_of_getElem? (i := 4) rfl))
theorem se_X7_copyPlain : Cond.selects RX7 yX7_copyPlain yX7_copyPlain ∈ TT := tt_p (pv3 (List.mem_of_getElem? (i := 5) rfl))
theorem se_X7_copyDeeper : Cond.selects RX7 yX7_copyDeeper yX7_copyDeeper ∈ TT := tt_p (pv3 (List.mem_of_getElem? (i := 6) rfl))
theorem se_X7_contract : Cond.selects RX7 yX7_contract yX7_contract ∈ TT := tt_p (pv3 (List.mem_of_getElem? (i := 7) rfl))
theorem se_X7_putFor : Cond.selects RX7 yX7_putFor yX7_putFor ∈ TT := tt_p (pv3 (List.mem_of_getElem? (i := 8) rfl))
theorem se_X7_moveOut : Cond.selects RX7 yX7_moveOut yX7_moveOut ∈ TT := tt_p (pv3 (List.mem_of_getElem? (i := 9) rfl))
theorem se_X10_provenBy : Cond.selects RX10 yX10_provenBy yX10_provenBy ∈ TT := tt_p (pv3 (List.mem_of_getElem? (i := 10) rfl))
theorem se_X10_numberLines : Cond.selects RX10 yX10_numberLines yX10_numberLines ∈ TT := tt_p (pv3 (List.mem_of_getElem? (i := 11) rfl))
theorem se_X4_addLine : Cond.selects RX4 yX4_addLine yX4_addLine ∈ TT := tt_p (pv3 (List.mem_of_getElem? (i := 12) rfl))
theorem se_X4_takeOn : Cond.selects RX4 yX4_takeOn yX4_takeOn ∈ TT := tt_p (pv3 (List.mem_of_getElem? (i := 13) rfl))
theorem se_X4_endNode : Cond.selects RX4 yX4_endNode yX4_endNode ∈ TT := tt_p (pv3 (List.mem_of_getElem? (i := 14) rfl))
theorem se_X4_lineOfName : Cond.selects RX4 yX4_lineOfName yX4_lineOfName ∈ TT := tt_p (pv3 (List.mem_of_getElem? (i := 15) rfl))
theorem se_X4_setFrom : Cond.selects RX4 yX4_setFrom yX4_setFrom ∈ TT := tt_p (pv4 (List.mem_of_getElem? (i := 0) rfl))
theorem se_X10_provableFrom : Cond.selects RX10 yX10_provableFrom yX10_provableFrom ∈ TT := tt_p (pv4 (List.mem_of_getElem? (i := 1) rfl))
theorem se_X0_takeParts : Cond.selects RX0 yX0_takeParts yX0_takeParts ∈ TT := tt_p (pv4 (List.mem_of_getElem? (i := 2) rfl))
theorem se_X0_findAsked : Cond.selects RX0 yX0_findAsked yX0_findAsked ∈ TT := tt_p (pv4 (List.mem_of_getElem? (i := 3) rfl))
theorem se_X0_close : Cond.selects RX0 yX0_close yX0_close ∈ TT := tt_p (pv4 (List.mem_of_getElem? (i := 4) rfl))
theorem se_X0_saturate : Cond.selects RX0 yX0_saturate yX0_saturate ∈ TT := tt_p (pv4 (List.mem_of_getElem? (i := 5) rfl))
theorem se_X0_atOnce : Cond.selects RX0 yX0_atOnce yX0_atOnce ∈ TT := tt_p (pv4 (List.mem_of_getElem? (i := 6) rfl))
theorem se_X0_memoSpot : Cond.selects RX0 yX0_memoSpot yX0_memoSpot ∈ TT := tt_p (pv4 (List.mem_of_getElem? (i := 7) rfl))
theorem se_X0_openOr : Cond.selects RX0 yX0_openOr yX0_openOr ∈ TT := tt_p (pv4 (List.mem_of_getElem? (i := 8) rfl))
theorem se_X0_tryImps : Cond.selects RX0 yX0_tryImps yX0_tryImps ∈ TT := tt_p (pv4 (List.mem_of_getElem? (i := 9) rfl))
theorem se_X0_mattering : Cond.selects RX0 yX0_mattering yX0_mattering ∈ TT := tt_p (pv4 (List.mem_of_getElem? (i := 10) rfl))
theorem se_X0_remember : Cond.selects RX0 yX0_remember yX0_remember ∈ TT := tt_p (pv4 (List.mem_of_getElem? (i := 11) rfl))
theorem se_X5_fillTruths : Cond.selects RX5 yX5_fillTruths yX5_fillTruths ∈ TT := tt_p (pv4 (List.mem_of_getElem? (i := 12) rfl))
theorem se_X5_truthOf : Cond.selects RX5 yX5_truthOf yX5_truthOf ∈ TT := tt_p (pv4 (List.mem_of_getElem? (i := 13) rfl))
theorem se_X5_truthAt : Cond.selects RX5 yX5_truthAt yX5_truthAt ∈ TT := tt_p (pv4 (List.mem_of_getElem? (i := 14) rfl))
theorem se_X11_clears : Cond.selects RX11 yX11_clears yX11_clears ∈ TT := tt_p (pv4 (List.mem_of_getElem? (i := 15) rfl))
theorem se_X11_formula : Cond.selects RX11 yX11_formula yX11_formula ∈ TT := tt_p (pv5 (List.mem_of_getElem? (i := 0) rfl))
theorem se_X11_begins : Cond.selects RX11 yX11_begins yX11_begins ∈ TT := tt_p (pv5 (List.mem_of_getElem? (i := 1) rfl))
theorem se_X11_tidies : Cond.selects RX11 yX11_tidies yX11_tidies ∈ TT := tt_p (pv5 (List.mem_of_getElem? (i := 2) rfl))
theorem se_X11_marks : Cond.selects RX11 yX11_marks yX11_marks ∈ TT := tt_p (pv5 (List.mem_of_getElem? (i := 3) rfl))
theorem se_X11_isOver : Cond.selects RX11 yX11_isOver yX11_isOver ∈ TT := tt_p (pv5 (List.mem_of_getElem? (i := 4) rfl))
theorem se_X11_blanks : Cond.selects RX11 yX11_blanks yX11_blanks ∈ TT := tt_p (pv5 (List.mem_of_getElem? (i := 5) rfl))
theorem se_X11_peek : Cond.selects RX11 yX11_peek yX11_peek ∈ TT := tt_p (pv5 (List.mem_of_getElem? (i := 6) rfl))
theorem se_X11_readHypothesis : Cond.selects RX11 yX11_readHypothesis yX11_readHypothesis ∈ TT := tt_p (pv5 (List.mem_of_getElem? (i := 7) rfl))
theorem se_X11_nameHere : Cond.selects RX11 yX11_nameHere yX11_nameHere ∈ TT := tt_p (pv5 (List.mem_of_getElem? (i := 8) rfl))
theorem se_X11_wordNext : Cond.selects RX11 yX11_wordNext yX11_wordNext ∈ TT := tt_p (pv5 (List.mem_of_getElem? (i := 9) rfl))
theorem se_X11_lettersHere : Cond.selects RX11 yX11_lettersHere yX11_lettersHere ∈ TT := tt_p (pv5 (List.mem_of_getElem? (i := 10) rfl))
theorem se_X11_fails : Cond.selects RX11 yX11_fails yX11_fails ∈ TT := tt_p (pv5 (List.mem_of_getElem? (i := 11) rfl))
theorem se_X11_isNamed : Cond.selects RX11 yX11_isNamed yX11_isNamed ∈ TT := tt_p (pv5 (List.mem_of_getElem? (i := 12) rfl))
theorem se_X11_formulaRead : Cond.selects RX11 yX11_formulaRead yX11_formulaRead ∈ TT := tt_p (pv5 (List.mem_of_getElem? (i := 13) rfl))
theorem se_X11_readFormula : Cond.selects RX11 yX11_readFormula yX11_readFormula ∈ TT := tt_p (pv5 (List.mem_of_getElem? (i := 14) rfl))
theorem se_X11_settles : Cond.selects RX11 yX11_settles yX11_settles ∈ TT := tt_p (pv5 (List.mem_of_getElem? (i := 15) rfl))
theorem se_X11_readTerm : Cond.selects RX11 yX11_readTerm yX11_readTerm ∈ TT := tt_p (pv6 (List.mem_of_getElem? (i := 0) rfl))
theorem se_X11_readName0 : Cond.selects RX11 yX11_readName0 yX11_readName0 ∈ TT := tt_p (pv6 (List.mem_of_getElem? (i := 1) rfl))
theorem se_X11_meant : Cond.selects RX11 yX11_meant yX11_meant ∈ TT := tt_p (pv6 (List.mem_of_getElem? (i := 2) rfl))
theorem se_X11_adds : Cond.selects RX11 yX11_adds yX11_adds ∈ TT := tt_p (pv6 (List.mem_of_getElem? (i := 3) rfl))
theorem se_X11_tells0 : Cond.selects RX11 yX11_tells0 yX11_tells0 ∈ TT := tt_p (pv6 (List.mem_of_getElem? (i := 4) rfl))
theorem se_X11_proves : Cond.selects RX11 yX11_proves yX11_proves ∈ TT := tt_p (pv6 (List.mem_of_getElem? (i := 5) rfl))
theorem se_X11_asks : Cond.selects RX11 yX11_asks yX11_asks ∈ TT := tt_p (pv6 (List.mem_of_getElem? (i := 6) rfl))
theorem se_X11_provenBy : Cond.selects RX11 yX11_provenBy yX11_provenBy ∈ TT := tt_p (pv6 (List.mem_of_getElem? (i := 7) rfl))
theorem se_X11_isNot : Cond.selects RX11 yX11_isNot yX11_isNot ∈ TT := tt_p (pv6 (List.mem_of_getElem? (i := 8) rfl))
theorem se_X11_stores : Cond.selects RX11 yX11_stores yX11_stores ∈ TT := tt_p (pv6 (List.mem_of_getElem? (i := 9) rfl))
theorem se_X11_isEmpty : Cond.selects RX11 yX11_isEmpty yX11_isEmpty ∈ TT := tt_p (pv6 (List.mem_of_getElem? (i := 10) rfl))
theorem se_X11_takes : Cond.selects RX11 yX11_takes yX11_takes ∈ TT := tt_p (pv6 (List.mem_of_getElem? (i := 11) rfl))
theorem se_X11_steps : Cond.selects RX11 yX11_steps yX11_steps ∈ TT := tt_p (pv6 (List.mem_of_getElem? (i := 12) rfl))
theorem se_X11_firstRedex : Cond.selects RX11 yX11_firstRedex yX11_firstRedex ∈ TT := tt_p (pv6 (List.mem_of_getElem? (i := 13) rfl))
theorem se_X11_redexAt : Cond.selects RX11 yX11_redexAt yX11_redexAt ∈ TT := tt_p (pv6 (List.mem_of_getElem? (i := 14) rfl))
theorem se_X11_asked : Cond.selects RX11 yX11_asked yX11_asked ∈ TT := tt_p (pv6 (List.mem_of_getElem? (i := 15) rfl))
theorem se_X11_willBe : Cond.selects RX11 yX11_willBe yX11_willBe ∈ TT := tt_p (pv7 (List.mem_of_getElem? (i := 0) rfl))
theorem se_X11_nodesOf : Cond.selects RX11 yX11_nodesOf yX11_nodesOf ∈ TT := tt_p (pv7 (List.mem_of_getElem? (i := 1) rfl))
theorem se_X11_behind : Cond.selects RX11 yX11_behind yX11_behind ∈ TT := tt_p (pv7 (List.mem_of_getElem? (i := 2) rfl))
theorem se_X11_inner : Cond.selects RX11 yX11_inner yX11_inner ∈ TT := tt_p (pv7 (List.mem_of_getElem? (i := 3) rfl))
theorem se_X11_withIn : Cond.selects RX11 yX11_withIn yX11_withIn ∈ TT := tt_p (pv7 (List.mem_of_getElem? (i := 4) rfl))
theorem se_X11_timesIn : Cond.selects RX11 yX11_timesIn yX11_timesIn ∈ TT := tt_p (pv7 (List.mem_of_getElem? (i := 5) rfl))
theorem se_X11_copies : Cond.selects RX11 yX11_copies yX11_copies ∈ TT := tt_p (pv7 (List.mem_of_getElem? (i := 6) rfl))
theorem se_X11_writes : Cond.selects RX11 yX11_writes yX11_writes ∈ TT := tt_p (pv7 (List.mem_of_getElem? (i := 7) rfl))
theorem se_X11_puts : Cond.selects RX11 yX11_puts yX11_puts ∈ TT := tt_p (pv7 (List.mem_of_getElem? (i := 8) rfl))
theorem se_X11_turns : Cond.selects RX11 yX11_turns yX11_turns ∈ TT := tt_p (pv7 (List.mem_of_getElem? (i := 9) rfl))
theorem se_X11_normalize : Cond.selects RX11 yX11_normalize yX11_normalize ∈ TT := tt_p (pv7 (List.mem_of_getElem? (i := 10) rfl))
theorem se_X11_tellsSlot : Cond.selects RX11 yX11_tellsSlot yX11_tellsSlot ∈ TT := tt_p (pv7 (List.mem_of_getElem? (i := 11) rfl))
theorem se_X11_begins0 : Cond.selects RX11 yX11_begins0 yX11_begins0 ∈ TT := tt_p (pv7 (List.mem_of_getElem? (i := 12) rfl))
theorem se_X11_tellsTerm : Cond.selects RX11 yX11_tellsTerm yX11_tellsTerm ∈ TT := tt_p (pv7 (List.mem_of_getElem? (i := 13) rfl))
theorem se_X11_tellsHypothesis : Cond.selects RX11 yX11_tellsHypothesis yX11_tellsHypothesis ∈ TT := tt_p (pv7 (List.mem_of_getElem? (i := 14) rfl))
theorem se_X11_tells : Cond.selects RX11 yX11_tells yX11_tells ∈ TT := tt_p (pv7 (List.mem_of_getElem? (i := 15) rfl))
theorem se_X11_tellsLevel : Cond.selects RX11 yX11_tellsLevel yX11_tellsLevel ∈ TT := tt_p (pv8 (List.mem_of_getElem? (i := 0) rfl))
theorem se_X11_tellsWord : Cond.selects RX11 yX11_tellsWord yX11_tellsWord ∈ TT := tt_p (pv8 (List.mem_of_getElem? (i := 1) rfl))
theorem se_X11_tellsFormula : Cond.selects RX11 yX11_tellsFormula yX11_tellsFormula ∈ TT := tt_p (pv8 (List.mem_of_getElem? (i := 2) rfl))
theorem se_X11_deepest : Cond.selects RX11 yX11_deepest yX11_deepest ∈ TT := tt_p (pv8 (List.mem_of_getElem? (i := 3) rfl))
theorem se_X11_deepestFrom : Cond.selects RX11 yX11_deepestFrom yX11_deepestFrom ∈ TT := tt_p (pv8 (List.mem_of_getElem? (i := 4) rfl))
theorem se_X11_unlike : Cond.selects RX11 yX11_unlike yX11_unlike ∈ TT := tt_p (pv8 (List.mem_of_getElem? (i := 5) rfl))
theorem se_X11_redexesOf : Cond.selects RX11 yX11_redexesOf yX11_redexesOf ∈ TT := tt_p (pv8 (List.mem_of_getElem? (i := 6) rfl))
theorem se_X11_laysLines : Cond.selects RX11 yX11_laysLines yX11_laysLines ∈ TT := tt_p (pv8 (List.mem_of_getElem? (i := 7) rfl))
theorem se_X11_line0 : Cond.selects RX11 yX11_line0 yX11_line0 ∈ TT := tt_p (pv8 (List.mem_of_getElem? (i := 8) rfl))
theorem se_X11_linesFrom : Cond.selects RX11 yX11_linesFrom yX11_linesFrom ∈ TT := tt_p (pv8 (List.mem_of_getElem? (i := 9) rfl))
theorem se_X11_keepsBeside : Cond.selects RX11 yX11_keepsBeside yX11_keepsBeside ∈ TT := tt_p (pv8 (List.mem_of_getElem? (i := 10) rfl))
theorem se_X11_isThen : Cond.selects RX11 yX11_isThen yX11_isThen ∈ TT := tt_p (pv8 (List.mem_of_getElem? (i := 11) rfl))
theorem se_X11_provableBy : Cond.selects RX11 yX11_provableBy yX11_provableBy ∈ TT := tt_p (pv8 (List.mem_of_getElem? (i := 12) rfl))
theorem se_X11_wordsOf : Cond.selects RX11 yX11_wordsOf yX11_wordsOf ∈ TT := tt_p (pv8 (List.mem_of_getElem? (i := 13) rfl))
theorem se_X11_withHad : Cond.selects RX11 yX11_withHad yX11_withHad ∈ TT := tt_p (pv8 (List.mem_of_getElem? (i := 14) rfl))
theorem se_X11_isHad : Cond.selects RX11 yX11_isHad yX11_isHad ∈ TT := tt_p (pv8 (List.mem_of_getElem? (i := 15) rfl))
theorem se_X11_canProve : Cond.selects RX11 yX11_canProve yX11_canProve ∈ TT := tt_p (pv9 (List.mem_of_getElem? (i := 0) rfl))
theorem se_X11_copiesHad : Cond.selects RX11 yX11_copiesHad yX11_copiesHad ∈ TT := tt_p (pv9 (List.mem_of_getElem? (i := 1) rfl))
theorem se_X11_byOne : Cond.selects RX11 yX11_byOne yX11_byOne ∈ TT := tt_p (pv9 (List.mem_of_getElem? (i := 2) rfl))
theorem se_X11_againstNow : Cond.selects RX11 yX11_againstNow yX11_againstNow ∈ TT := tt_p (pv9 (List.mem_of_getElem? (i := 3) rfl))
theorem se_X11_isTrue : Cond.selects RX11 yX11_isTrue yX11_isTrue ∈ TT := tt_p (pv9 (List.mem_of_getElem? (i := 4) rfl))
