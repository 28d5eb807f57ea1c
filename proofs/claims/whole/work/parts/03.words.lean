def TT : List Cond := lw_tbl.filter goodWord
theorem tt_t {w : Cond} (h : w ∈ tables_1) (g : goodWord w = true) : w ∈ TT := List.mem_filter.mpr ⟨List.mem_append_right _ h, g⟩
theorem tt_p {q : MethodName × Nat} (h : q ∈ lw_privs) : Cond.selects q.1.cls q.1 q.1 ∈ TT := List.mem_filter.mpr ⟨List.mem_append_left _ (List.mem_map.mpr ⟨q, h, rfl⟩), rfl⟩
theorem tt_good : ∀ w ∈ TT, (w.onTables && w.keeps) = true ∨ ∃ ty, w = .arrayClass ty := fun w h => good_of_word (List.mem_filter.mp h).2
theorem tm1 {w : Cond} (h : w ∈ tables_1_1) : w ∈ tables_1 := List.mem_append_left _ h
theorem tm2 {w : Cond} (h : w ∈ tables_1_2) : w ∈ tables_1 := List.mem_append_right _ (List.mem_append_left _ h)
theorem tm3 {w : Cond} (h : w ∈ tables_1_3) : w ∈ tables_1 := List.mem_append_right _ (List.mem_append_right _ (List.mem_append_left _ h))
theorem tm4 {w : Cond} (h : w ∈ tables_1_4) : w ∈ tables_1 := List.mem_append_right _ (List.mem_append_right _ (List.mem_append_right _ (List.mem_append_left _ h)))
theorem tm5 {w : Cond} (h : w ∈ tables_1_5) : w ∈ tables_1 := List.mem_append_right _ (List.mem_append_right _ (List.mem_append_right _ (List.mem_append_right _ (List.mem_append_left _ h))))
theorem tm6 {w : Cond} (h : w ∈ tables_1_6) : w ∈ tables_1 := List.mem_append_right _ (List.mem_append_right _ (List.mem_append_right _ (List.mem_append_right _ (List.mem_append_right _ (List.mem_append_left _ h)))))
theorem tm7 {w : Cond} (h : w ∈ tables_1_7) : w ∈ tables_1 := List.mem_append_right _ (List.mem_append_right _ (List.mem_append_right _ (List.mem_append_right _ (List.mem_append_right _ (List.mem_append_right _ (List.mem_append_left _ h))))))
theorem tm8 {w : Cond} (h : w ∈ tables_1_8) : w ∈ tables_1 := List.mem_append_right _ (List.mem_append_right _ (List.mem_append_right _ (List.mem_append_right _ (List.mem_append_right _ (List.mem_append_right _ (List.mem_append_right _ (h)))))))
def cT : Nat → u_T := fun ci => match ci with
  | 0 => TX0
  | 1 => TX1
  | 2 => TX2
  | 3 => TX3
  | 4 => TX4
  | 5 => TX5
  | 6 => TX6
  | 7 => TX7
  | 8 => TX8
  | 9 => TX9
  | 10 => TX10
  | _ => TX11
def cTy : Nat → (Nat → FieldType) := fun ci => match ci with
  | 0 => tyX0
  | 1 => tyX1
  | 2 => tyX2
  | 3 => tyX3
  | 4 => tyX4
  | 5 => tyX5
  | 6 => tyX6
  | 7 => tyX7
  | 8 => tyX8
  | 9 => tyX9
  | 10 => tyX10
  | _ => tyX11
def cNm : Nat → String := fun ci => match ci with
  | 0 => RX0
  | 1 => RX1
  | 2 => RX2
  | 3 => RX3
  | 4 => RX4
  | 5 => RX5
  | 6 => RX6
  | 7 => RX7
  | 8 => RX8
  | 9 => RX9
  | 10 => RX10
  | _ => RX11
def cN : Nat → Nat := fun ci => match ci with
  | 0 => 11
  | 1 => 9
  | 2 => 4
  | 3 => 13
  | 4 => 8
  | 5 => 7
  | 6 => 19
  | 7 => 5
  | 8 => 5
  | 9 => 4
  | 10 => 18
  | _ => 61
theorem ly0_0 : u_lay RX0 TX0 0 ∈ TT := tt_t (tm2 (List.mem_of_getElem? (i := 172) rfl)) rfl
theorem ly0_1 : u_lay RX0 TX0 1 ∈ TT := tt_t (tm2 (List.mem_of_getElem? (i := 174) rfl)) rfl
theorem ly0_2 : u_lay RX0 TX0 2 ∈ TT := tt_t (tm2 (List.mem_of_getElem? (i := 176) rfl)) rfl
theorem ly0_3 : u_lay RX0 TX0 3 ∈ TT := tt_t (tm2 (List.mem_of_getElem? (i := 178) rfl)) rfl
theorem ly0_4 : u_lay RX0 TX0 4 ∈ TT := tt_t (tm2 (List.mem_of_getElem? (i := 180) rfl)) rfl
theorem ly0_5 : u_lay RX0 TX0 5 ∈ TT := tt_t (tm2 (List.mem_of_getElem? (i := 182) rfl)) rfl
theorem ly0_6 : u_lay RX0 TX0 6 ∈ TT := tt_t (tm2 (List.mem_of_getElem? (i := 184) rfl)) rfl
theorem ly0_7 : u_lay RX0 TX0 7 ∈ TT := tt_t (tm2 (List.mem_of_getElem? (i := 186) rfl)) rfl
theorem ly0_8 : u_lay RX0 TX0 8 ∈ TT := tt_t (tm2 (List.mem_of_getElem? (i := 188) rfl)) rfl
theorem ly0_9 : u_lay RX0 TX0 9 ∈ TT := tt_t (tm2 (List.mem_of_getElem? (i := 190) rfl)) rfl
theorem ly0_10 : u_lay RX0 TX0 10 ∈ TT := tt_t (tm2 (List.mem_of_getElem? (i := 192) rfl)) rfl
theorem c_in0 : ∀ w ∈ u_ws RX0 TX0 11, w ∈ TT := by
  intro w h
  obtain ⟨k, hk, rfl⟩ := List.mem_map.mp h
  have hk := List.mem_range.mp hk
  match k, hk with
  | 0, _ => exact ly0_0
  | 1, _ => exact ly0_1
  | 2, _ => exact ly0_2
  | 3, _ => exact ly0_3
  | 4, _ => exact ly0_4
  | 5, _ => exact ly0_5
  | 6, _ => exact ly0_6
  | 7, _ => exact ly0_7
  | 8, _ => exact ly0_8
  | 9, _ => exact ly0_9
  | 10, _ => exact ly0_10
  | k + 11, hk => exact absurd hk (by omega)
theorem ly1_0 : u_lay RX1 TX1 0 ∈ TT := tt_t (tm1 (List.mem_of_getElem? (i := 47) rfl)) rfl
theorem ly1_1 : u_lay RX1 TX1 1 ∈ TT := tt_t (tm1 (List.mem_of_getElem? (i := 49) rfl)) rfl
theorem ly1_2 : u_lay RX1 TX1 2 ∈ TT := tt_t (tm1 (List.mem_of_getElem? (i := 51) rfl)) rfl
theorem ly1_3 : u_lay RX1 TX1 3 ∈ TT := tt_t (tm1 (List.mem_of_getElem? (i := 53) rfl)) rfl
theorem ly1_4 : u_lay RX1 TX1 4 ∈ TT := tt_t (tm1 (List.mem_of_getElem? (i := 55) rfl)) rfl
theorem ly1_5 : u_lay RX1 TX1 5 ∈ TT := tt_t (tm1 (List.mem_of_getElem? (i := 57) rfl)) rfl
theorem ly1_6 : u_lay RX1 TX1 6 ∈ TT := tt_t (tm1 (List.mem_of_getElem? (i := 59) rfl)) rfl
theorem ly1_7 : u_lay RX1 TX1 7 ∈ TT := tt_t (tm1 (List.mem_of_getElem? (i := 61) rfl)) rfl
theorem ly1_8 : u_lay RX1 TX1 8 ∈ TT := tt_t (tm1 (List.mem_of_getElem? (i := 63) rfl)) rfl
theorem c_in1 : ∀ w ∈ u_ws RX1 TX1 9, w ∈ TT := by
  intro w h
  obtain ⟨k, hk, rfl⟩ := List.mem_map.mp h
  have hk := List.mem_range.mp hk
  match k, hk with
  | 0, _ => exact ly1_0
  | 1, _ => exact ly1_1
  | 2, _ => exact ly1_2
  | 3, _ => exact ly1_3
  | 4, _ => exact ly1_4
  | 5, _ => exact ly1_5
  | 6, _ => exact ly1_6
  | 7, _ => exact ly1_7
  | 8, _ => exact ly1_8
  | k + 9, hk => exact absurd hk (by omega)
theorem ly2_0 : u_lay RX2 TX2 0 ∈ TT := tt_t (tm1 (List.mem_of_getElem? (i := 82) rfl)) rfl
theorem ly2_1 : u_lay RX2 TX2 1 ∈ TT := tt_t (tm1 (List.mem_of_getElem? (i := 84) rfl)) rfl
theorem ly2_2 : u_lay RX2 TX2 2 ∈ TT := tt_t (tm1 (List.mem_of_getElem? (i := 86) rfl)) rfl
theorem ly2_3 : u_lay RX2 TX2 3 ∈ TT := tt_t (tm1 (List.mem_of_getElem? (i := 88) rfl)) rfl
theorem c_in2 : ∀ w ∈ u_ws RX2 TX2 4, w ∈ TT := by
  intro w h
  obtain ⟨k, hk, rfl⟩ := List.mem_map.mp h
  have hk := List.mem_range.mp hk
  match k, hk with
  | 0, _ => exact ly2_0
  | 1, _ => exact ly2_1
  | 2, _ => exact ly2_2
  | 3, _ => exact ly2_3
  | k + 4, hk => exact absurd hk (by omega)
theorem ly3_0 : u_lay RX3 TX3 0 ∈ TT := tt_t (tm2 (List.mem_of_getElem? (i := 19) rfl)) rfl
theorem ly3_1 : u_lay RX3 TX3 1 ∈ TT := tt_t (tm2 (List.mem_of_getElem? (i := 21) rfl)) rfl
theorem ly3_2 : u_lay RX3 TX3 2 ∈ TT := tt_t (tm2 (List.mem_of_getElem? (i := 23) rfl)) rfl
theorem ly3_3 : u_lay RX3 TX3 3 ∈ TT := tt_t (tm2 (List.mem_of_getElem? (i := 25) rfl)) rfl
theorem ly3_4 : u_lay RX3 TX3 4 ∈ TT := tt_t (tm2 (List.mem_of_getElem? (i := 27) rfl)) rfl
theorem ly3_5 : u_lay RX3 TX3 5 ∈ TT := tt_t (tm2 (List.mem_of_getElem? (i := 29) rfl)) rfl
theorem ly3_6 : u_lay RX3 TX3 6 ∈ TT := tt_t (tm2 (List.mem_of_getElem? (i := 31) rfl)) rfl
theorem ly3_7 : u_lay RX3 TX3 7 ∈ TT := tt_t (tm2 (List.mem_of_getElem? (i := 33) rfl)) rfl
theorem ly3_8 : u_lay RX3 TX3 8 ∈ TT := tt_t (tm2 (List.mem_of_getElem? (i := 35) rfl)) rfl
theorem ly3_9 : u_lay RX3 TX3 9 ∈ TT := tt_t (tm2 (List.mem_of_getElem? (i := 37) rfl)) rfl
theorem ly3_10 : u_lay RX3 TX3 10 ∈ TT := tt_t (tm2 (List.mem_of_getElem? (i := 39) rfl)) rfl
theorem ly3_11 : u_lay RX3 TX3 11 ∈ TT := tt_t (tm2 (List.mem_of_getElem? (i := 41) rfl)) rfl
theorem ly3_12 : u_lay RX3 TX3 12 ∈ TT := tt_t (tm2 (List.mem_of_getElem? (i := 43) rfl)) rfl
theorem c_in3 : ∀ w ∈ u_ws RX3 TX3 13, w ∈ TT := by
  intro w h
  obtain ⟨k, hk, rfl⟩ := List.mem_map.mp h
  have hk := List.mem_range.mp hk
  match k, hk with
  | 0, _ => exact ly3_0
  | 1, _ => exact ly3_1
  | 2, _ => exact ly3_2
  | 3, _ => exact ly3_3
  | 4, _ => exact ly3_4
  | 5, _ => exact ly3_5
  | 6, _ => exact ly3_6
  | 7, _ => exact ly3_7
  | 8, _ => exact ly3_8
  | 9, _ => exact ly3_9
  | 10, _ => exact ly3_10
  | 11, _ => exact ly3_11
  | 12, _ => exact ly3_12
  | k + 13, hk => exact absurd hk (by omega)
theorem ly4_0 : u_lay RX4 TX4 0 ∈ TT := tt_t (tm2 (List.mem_of_getElem? (i := 109) rfl)) rfl
theorem ly4_1 : u_lay RX4 TX4 1 ∈ TT := tt_t (tm2 (List.mem_of_getElem? (i := 111) rfl)) rfl
theorem ly4_2 : u_lay RX4 TX4 2 ∈ TT := tt_t (tm2 (List.mem_of_getElem? (i := 113) rfl)) rfl
theorem ly4_3 : u_lay RX4 TX4 3 ∈ TT := tt_t (tm2 (List.mem_of_getElem? (i := 115) rfl)) rfl
theorem ly4_4 : u_lay RX4 TX4 4 ∈ TT := tt_t (tm2 (List.mem_of_getElem? (i := 117) rfl)) rfl
theorem ly4_5 : u_lay RX4 TX4 5 ∈ TT := tt_t (tm2 (List.mem_of_getElem? (i := 119) rfl)) rfl
theorem ly4_6 : u_lay RX4 TX4 6 ∈ TT := tt_t (tm2 (List.mem_of_getElem? (i := 121) rfl)) rfl
theorem ly4_7 : u_lay RX4 TX4 7 ∈ TT := tt_t (tm2 (List.mem_of_getElem? (i := 123) rfl)) rfl
theorem c_in4 : ∀ w ∈ u_ws RX4 TX4 8, w ∈ TT := by
  intro w h
  obtain ⟨k, hk, rfl⟩ := List.mem_map.mp h
  have hk := List.mem_range.mp hk
  match k, hk with
  | 0, _ => exact ly4_0
  | 1, _ => exact ly4_1
  | 2, _ => exact ly4_2
  | 3, _ => exact ly4_3
  | 4, _ => exact ly4_4
  | 5, _ => exact ly4_5
  | 6, _ => exact ly4_6
  | 7, _ => exact ly4_7
  | k + 8, hk => exact absurd hk (by omega)
theorem ly5_0 : u_lay RX5 TX5 0 ∈ TT := tt_t (tm2 (List.mem_of_getElem? (i := 140) rfl)) rfl
theorem ly5_1 : u_lay RX5 TX5 1 ∈ TT := tt_t (tm2 (List.mem_of_getElem? (i := 142) rfl)) rfl
theorem ly5_2 : u_lay RX5 TX5 2 ∈ TT := tt_t (tm2 (List.mem_of_getElem? (i := 144) rfl)) rfl
theorem ly5_3 : u_lay RX5 TX5 3 ∈ TT := tt_t (tm2 (List.mem_of_getElem? (i := 146) rfl)) rfl
theorem ly5_4 : u_lay RX5 TX5 4 ∈ TT := tt_t (tm2 (List.mem_of_getElem? (i := 148) rfl)) rfl
theorem ly5_5 : u_lay RX5 TX5 5 ∈ TT := tt_t (tm2 (List.mem_of_getElem? (i := 150) rfl)) rfl
theorem ly5_6 : u_lay RX5 TX5 6 ∈ TT := tt_t (tm2 (List.mem_of_getElem? (i := 152) rfl)) rfl
theorem c_in5 : ∀ w ∈ u_ws RX5 TX5 7, w ∈ TT := by
  intro w h
  obtain ⟨k, hk, rfl⟩ := List.mem_map.mp h
  have hk := List.mem_range.mp hk
  match k, hk with
  | 0, _ => exact ly5_0
  | 1, _ => exact ly5_1
  | 2, _ => exact ly5_2
  | 3, _ => exact ly5_3
  | 4, _ => exact ly5_4
  | 5, _ => exact ly5_5
  | 6, _ => exact ly5_6
  | k + 7, hk => exact absurd hk (by omega)
theorem ly6_0 : u_lay RX6 TX6 0 ∈ TT := tt_t (tm1 (List.mem_of_getElem? (i := 169) rfl)) rfl
theorem ly6_1 : u_lay RX6 TX6 1 ∈ TT := tt_t (tm1 (List.mem_of_getElem? (i := 171) rfl)) rfl
theorem ly6_2 : u_lay RX6 TX6 2 ∈ TT := tt_t (tm1 (List.mem_of_getElem? (i := 173) rfl)) rfl
theorem ly6_3 : u_lay RX6 TX6 3 ∈ TT := tt_t (tm1 (List.mem_of_getElem? (i := 175) rfl)) rfl
theorem ly6_4 : u_lay RX6 TX6 4 ∈ TT := tt_t (tm1 (List.mem_of_getElem? (i := 177) rfl)) rfl
theorem ly6_5 : u_lay RX6 TX6 5 ∈ TT := tt_t (tm1 (List.mem_of_getElem? (i := 179) rfl)) rfl
theorem ly6_6 : u_lay RX6 TX6 6 ∈ TT := tt_t (tm1 (List.mem_of_getElem? (i := 181) rfl)) rfl
theorem ly6_7 : u_lay RX6 TX6 7 ∈ TT := tt_t (tm1 (List.mem_of_getElem? (i := 183) rfl)) rfl
theorem ly6_8 : u_lay RX6 TX6 8 ∈ TT := tt_t (tm1 (List.mem_of_getElem? (i := 185) rfl)) rfl
theorem ly6_9 : u_lay RX6 TX6 9 ∈ TT := tt_t (tm1 (List.mem_of_getElem? (i := 187) rfl)) rfl
theorem ly6_10 : u_lay RX6 TX6 10 ∈ TT := tt_t (tm1 (List.mem_of_getElem? (i := 189) rfl)) rfl
theorem ly6_11 : u_lay RX6 TX6 11 ∈ TT := tt_t (tm1 (List.mem_of_getElem? (i := 191) rfl)) rfl
theorem ly6_12 : u_lay RX6 TX6 12 ∈ TT := tt_t (tm1 (List.mem_of_getElem? (i := 193) rfl)) rfl
theorem ly6_13 : u_lay RX6 TX6 13 ∈ TT := tt_t (tm1 (List.mem_of_getElem? (i := 195) rfl)) rfl
theorem ly6_14 : u_lay RX6 TX6 14 ∈ TT := tt_t (tm1 (List.mem_of_getElem? (i := 197) rfl)) rfl
theorem ly6_15 : u_lay RX6 TX6 15 ∈ TT := tt_t (tm1 (List.mem_of_getElem? (i := 199) rfl)) rfl
theorem ly6_16 : u_lay RX6 TX6 16 ∈ TT := tt_t (tm1 (List.mem_of_getElem? (i := 201) rfl)) rfl
theorem ly6_17 : u_lay RX6 TX6 17 ∈ TT := tt_t (tm1 (List.mem_of_getElem? (i := 203) rfl)) rfl
theorem ly6_18 : u_lay RX6 TX6 18 ∈ TT := tt_t (tm1 (List.mem_of_getElem? (i := 205) rfl)) rfl
theorem c_in6 : ∀ w ∈ u_ws RX6 TX6 19, w ∈ TT := by
  intro w h
  obtain ⟨k, hk, rfl⟩ := List.mem_map.mp h
  have hk := List.mem_range.mp hk
  match k, hk with
  | 0, _ => exact ly6_0
  | 1, _ => exact ly6_1
  | 2, _ => exact ly6_2
  | 3, _ => exact ly6_3
  | 4, _ => exact ly6_4
  | 5, _ => exact ly6_5
  | 6, _ => exact ly6_6
  | 7, _ => exact ly6_7
  | 8, _ => exact ly6_8
  | 9, _ => exact ly6_9
  | 10, _ => exact ly6_10
  | 11, _ => exact ly6_11
  | 12, _ => exact ly6_12
  | 13, _ => exact ly6_13
  | 14, _ => exact ly6_14
  | 15, _ => exact ly6_15
  | 16, _ => exact ly6_16
  | 17, _ => exact ly6_17
  | 18, _ => exact ly6_18
  | k + 19, hk => exact absurd hk (by omega)
theorem ly7_0 : u_lay RX7 TX7 0 ∈ TT := tt_t (tm2 (List.mem_of_getElem? (i := 59) rfl)) rfl
theorem ly7_1 : u_lay RX7 TX7 1 ∈ TT := tt_t (tm2 (List.mem_of_getElem? (i := 61) rfl)) rfl
theorem ly7_2 : u_lay RX7 TX7 2 ∈ TT := tt_t (tm2 (List.mem_of_getElem? (i := 63) rfl)) rfl
theorem ly7_3 : u_lay RX7 TX7 3 ∈ TT := tt_t (tm2 (List.mem_of_getElem? (i := 65) rfl)) rfl
theorem ly7_4 : u_lay RX7 TX7 4 ∈ TT := tt_t (tm2 (List.mem_of_getElem? (i := 67) rfl)) rfl
theorem c_in7 : ∀ w ∈ u_ws RX7 TX7 5, w ∈ TT := by
  intro w h
  obtain ⟨k, hk, rfl⟩ := List.mem_map.mp h
  have hk := List.mem_range.mp hk
  match k, hk with
  | 0, _ => exact ly7_0
  | 1, _ => exact ly7_1
  | 2, _ => exact ly7_2
  | 3, _ => exact ly7_3
  | 4, _ => exact ly7_4
  | k + 5, hk => exact absurd hk (by omega)
theorem ly8_0 : u_lay RX8 TX8 0 ∈ TT := tt_t (tm2 (List.mem_of_getElem? (i := 83) rfl)) rfl
theorem ly8_1 : u_lay RX8 TX8 1 ∈ TT := tt_t (tm2 (List.mem_of_getElem? (i := 85) rfl)) rfl
theorem ly8_2 : u_lay RX8 TX8 2 ∈ TT := tt_t (tm2 (List.mem_of_getElem? (i := 87) rfl)) rfl
theorem ly8_3 : u_lay RX8 TX8 3 ∈ TT := tt_t (tm2 (List.mem_of_getElem? (i := 89) rfl)) rfl
theorem ly8_4 : u_lay RX8 TX8 4 ∈ TT := tt_t (tm2 (List.mem_of_getElem? (i := 91) rfl)) rfl
theorem c_in8 : ∀ w ∈ u_ws RX8 TX8 5, w ∈ TT := by
  intro w h
  obtain ⟨k, hk, rfl⟩ := List.mem_map.mp h
  have hk := List.mem_range.mp hk
  match k, hk with
  | 0, _ => exact ly8_0
  | 1, _ => exact ly8_1
  | 2, _ => exact ly8_2
  | 3, _ => exact ly8_3
  | 4, _ => exact ly8_4
  | k + 5, hk => exact absurd hk (by omega)
theorem ly9_0 : u_lay RX9 TX9 0 ∈ TT := tt_t (tm1 (List.mem_of_getElem? (i := 226) rfl)) rfl
theorem ly9_1 : u_lay RX9 TX9 1 ∈ TT := tt_t (tm1 (List.mem_of_getElem? (i := 228) rfl)) rfl
theorem ly9_2 : u_lay RX9 TX9 2 ∈ TT := tt_t (tm1 (List.mem_of_getElem? (i := 230) rfl)) rfl
theorem ly9_3 : u_lay RX9 TX9 3 ∈ TT := tt_t (tm1 (List.mem_of_getElem? (i := 232) rfl)) rfl
theorem c_in9 : ∀ w ∈ u_ws RX9 TX9 4, w ∈ TT := by
  intro w h
  obtain ⟨k, hk, rfl⟩ := List.mem_map.mp h
  have hk := List.mem_range.mp hk
  match k, hk with
  | 0, _ => exact ly9_0
  | 1, _ => exact ly9_1
  | 2, _ => exact ly9_2
  | 3, _ => exact ly9_3
  | k + 4, hk => exact absurd hk (by omega)
theorem ly10_0 : u_lay RX10 TX10 0 ∈ TT := tt_t (tm2 (List.mem_of_getElem? (i := 213) rfl)) rfl
theorem ly10_1 : u_lay RX10 TX10 1 ∈ TT := tt_t (tm2 (List.mem_of_getElem? (i := 215) rfl)) rfl
theorem ly10_2 : u_lay RX10 TX10 2 ∈ TT := tt_t (tm2 (List.mem_of_getElem? (i := 217) rfl)) rfl
theorem ly10_3 : u_lay RX10 TX10 3 ∈ TT := tt_t (tm2 (List.mem_of_getElem? (i := 219) rfl)) rfl
theorem ly10_4 : u_lay RX10 TX10 4 ∈ TT := tt_t (tm2 (List.mem_of_getElem? (i := 221) rfl)) rfl
theorem ly10_5 : u_lay RX10 TX10 5 ∈ TT := tt_t (tm2 (List.mem_of_getElem? (i := 223) rfl)) rfl
theorem ly10_6 : u_lay RX10 TX10 6 ∈ TT := tt_t (tm2 (List.mem_of_getElem? (i := 225) rfl)) rfl
theorem ly10_7 : u_lay RX10 TX10 7 ∈ TT := tt_t (tm2 (List.mem_of_getElem? (i := 227) rfl)) rfl
theorem ly10_8 : u_lay RX10 TX10 8 ∈ TT := tt_t (tm2 (List.mem_of_getElem? (i := 229) rfl)) rfl
theorem ly10_9 : u_lay RX10 TX10 9 ∈ TT := tt_t (tm2 (List.mem_of_getElem? (i := 231) rfl)) rfl
theorem ly10_10 : u_lay RX10 TX10 10 ∈ TT := tt_t (tm2 (List.mem_of_getElem? (i := 233) rfl)) rfl
theorem ly10_11 : u_lay RX10 TX10 11 ∈ TT := tt_t (tm2 (List.mem_of_getElem? (i := 235) rfl)) rfl
theorem ly10_12 : u_lay RX10 TX10 12 ∈ TT := tt_t (tm2 (List.mem_of_getElem? (i := 237) rfl)) rfl
theorem ly10_13 : u_lay RX10 TX10 13 ∈ TT := tt_t (tm2 (List.mem_of_getElem? (i := 239) rfl)) rfl
theorem ly10_14 : u_lay RX10 TX10 14 ∈ TT := tt_t (tm3 (List.mem_of_getElem? (i := 1) rfl)) rfl
theorem ly10_15 : u_lay RX10 TX10 15 ∈ TT := tt_t (tm3 (List.mem_of_getElem? (i := 3) rfl)) rfl
theorem ly10_16 : u_lay RX10 TX10 16 ∈ TT := tt_t (tm3 (List.mem_of_getElem? (i := 5) rfl)) rfl
theorem ly10_17 : u_lay RX10 TX10 17 ∈ TT := tt_t (tm3 (List.mem_of_getElem? (i := 7) rfl)) rfl
theorem c_in10 : ∀ w ∈ u_ws RX10 TX10 18, w ∈ TT := by
  intro w h
  obtain ⟨k, hk, rfl⟩ := List.mem_map.mp h
  have hk := List.mem_range.mp hk
  match k, hk with
  | 0, _ => exact ly10_0
  | 1, _ => exact ly10_1
  | 2, _ => exact ly10_2
  | 3, _ => exact ly10_3
  | 4, _ => exact ly10_4
  | 5, _ => exact ly10_5
  | 6, _ => exact ly10_6
  | 7, _ => exact ly10_7
  | 8, _ => exact ly10_8
  | 9, _ => exact ly10_9
  | 10, _ => exact ly10_10
  | 11, _ => exact ly10_11
  | 12, _ => exact ly10_12
  | 13, _ => exact ly10_13
  | 14, _ => exact ly10_14
  | 15, _ => exact ly10_15
  | 16, _ => exact ly10_16
  | 17, _ => exact ly10_17
  | k + 18, hk => exact absurd hk (by omega)
theorem ly11_0 : u_lay RX11 TX11 0 ∈ TT := tt_t (tm6 (List.mem_of_getElem? (i := 110) rfl)) rfl
theorem ly11_1 : u_lay RX11 TX11 1 ∈ TT := tt_t (tm6 (List.mem_of_getElem? (i := 112) rfl)) rfl
theorem ly11_2 : u_lay RX11 TX11 2 ∈ TT := tt_t (tm6 (List.mem_of_getElem? (i := 114) rfl)) rfl
theorem ly11_3 : u_lay RX11 TX11 3 ∈ TT := tt_t (tm6 (List.mem_of_getElem? (i := 116) rfl)) rfl
theorem ly11_4 : u_lay RX11 TX11 4 ∈ TT := tt_t (tm6 (List.mem_of_getElem? (i := 118) rfl)) rfl
theorem ly11_5 : u_lay RX11 TX11 5 ∈ TT := tt_t (tm6 (List.mem_of_getElem? (i := 120) rfl)) rfl
theorem ly11_6 : u_lay RX11 TX11 6 ∈ TT := tt_t (tm6 (List.mem_of_getElem? (i := 122) rfl)) rfl
theorem ly11_7 : u_lay RX11 TX11 7 ∈ TT := tt_t (tm6 (List.mem_of_getElem? (i := 124) rfl)) rfl
theorem ly11_8 : u_lay RX11 TX11 8 ∈ TT := tt_t (tm6 (List.mem_of_getElem? (i := 126) rfl)) rfl
theorem ly11_9 : u_lay RX11 TX11 9 ∈ TT := tt_t (tm6 (List.mem_of_getElem? (i := 128) rfl)) rfl
theorem ly11_10 : u_lay RX11 TX11 10 ∈ TT := tt_t (tm6 (List.mem_of_getElem? (i := 130) rfl)) rfl
theorem ly11_11 : u_lay RX11 TX11 11 ∈ TT := tt_t (tm6 (List.mem_of_getElem? (i := 132) rfl)) rfl
theorem ly11_12 : u_lay RX11 TX11 12 ∈ TT := tt_t (tm6 (List.mem_of_getElem? (i := 134) rfl)) rfl
theorem ly11_13 : u_lay RX11 TX11 13 ∈ TT := tt_t (tm6 (List.mem_of_getElem? (i := 136) rfl)) rfl
theorem ly11_14 : u_lay RX11 TX11 14 ∈ TT := tt_t (tm6 (List.mem_of_getElem? (i := 138) rfl)) rfl
theorem ly11_15 : u_lay RX11 TX11 15 ∈ TT := tt_t (tm6 (List.mem_of_getElem? (i := 140) rfl)) rfl
theorem ly11_16 : u_lay RX11 TX11 16 ∈ TT := tt_t (tm6 (List.mem_of_getElem? (i := 142) rfl)) rfl
theorem ly11_17 : u_lay RX11 TX11 17 ∈ TT := tt_t (tm6 (List.mem_of_getElem? (i := 144) rfl)) rfl
theorem ly11_18 : u_lay RX11 TX11 18 ∈ TT := tt_t (tm6 (List.mem_of_getElem? (i := 146) rfl)) rfl
theorem ly11_19 : u_lay RX11 TX11 19 ∈ TT := tt_t (tm6 (List.mem_of_getElem? (i := 148) rfl)) rfl
theorem ly11_20 : u_lay RX11 TX11 20 ∈ TT := tt_t (tm6 (List.mem_of_getElem? (i := 150) rfl)) rfl
theorem ly11_21 : u_lay RX11 TX11 21 ∈ TT := tt_t (tm6 (List.mem_of_getElem? (i := 152) rfl)) rfl
theorem ly11_22 : u_lay RX11 TX11 22 ∈ TT := tt_t (tm6 (List.mem_of_getElem? (i := 154) rfl)) rfl
theorem ly11_23 : u_lay RX11 TX11 23 ∈ TT := tt_t (tm6 (List.mem_of_getElem? (i := 156) rfl)) rfl
theorem ly11_24 : u_lay RX11 TX11 24 ∈ TT := tt_t (tm6 (List.mem_of_getElem? (i := 158) rfl)) rfl
theorem ly11_25 : u_lay RX11 TX11 25 ∈ TT := tt_t (tm6 (List.mem_of_getElem? (i := 160) rfl)) rfl
theorem ly11_26 : u_lay RX11 TX11 26 ∈ TT := tt_t (tm6 (List.mem_of_getElem? (i := 162) rfl)) rfl
theorem ly11_27 : u_lay RX11 TX11 27 ∈ TT := tt_t (tm6 (List.mem_of_getElem? (i := 164) rfl)) rfl
theorem ly11_28 : u_lay RX11 TX11 28 ∈ TT := tt_t (tm6 (List.mem_of_getElem? (i := 166) rfl)) rfl
theorem ly11_29 : u_lay RX11 TX11 29 ∈ TT := tt_t (tm6 (List.mem_of_getElem? (i := 168) rfl)) rfl
theorem ly11_30 : u_lay RX11 TX11 30 ∈ TT := tt_t (tm6 (List.mem_of_getElem? (i := 170) rfl)) rfl
theorem ly11_31 : u_lay RX11 TX11 31 ∈ TT := tt_t (tm6 (List.mem_of_getElem? (i := 172) rfl)) rfl
theorem ly11_32 : u_lay RX11 TX11 32 ∈ TT := tt_t (tm6 (List.mem_of_getElem? (i := 174) rfl)) rfl
theorem ly11_33 : u_lay RX11 TX11 33 ∈ TT := tt_t (tm6 (List.mem_of_getElem? (i := 176) rfl)) rfl
theorem ly11_34 : u_lay RX11 TX11 34 ∈ TT := tt_t (tm6 (List.mem_of_getElem? (i := 178) rfl)) rfl
theorem ly11_35 : u_lay RX11 TX11 35 ∈ TT := tt_t (tm6 (List.mem_of_getElem? (i := 180) rfl)) rfl
theorem ly11_36 : u_lay RX11 TX11 36 ∈ TT := tt_t (tm6 (List.mem_of_getElem? (i := 182) rfl)) rfl
theorem ly11_37 : u_lay RX11 TX11 37 ∈ TT := tt_t (tm6 (List.mem_of_getElem? (i := 184) rfl)) rfl
theorem ly11_38 : u_lay RX11 TX11 38 ∈ TT := tt_t (tm6 (List.mem_of_getElem? (i := 186) rfl)) rfl
theorem ly11_39 : u_lay RX11 TX11 39 ∈ TT := tt_t (tm6 (List.mem_of_getElem? (i := 188) rfl)) rfl
theorem ly11_40 : u_lay RX11 TX11 40 ∈ TT := tt_t (tm6 (List.mem_of_getElem? (i := 190) rfl)) rfl
theorem ly11_41 : u_lay RX11 TX11 41 ∈ TT := tt_t (tm6 (List.mem_of_getElem? (i := 192) rfl)) rfl
theorem ly11_42 : u_lay RX11 TX11 42 ∈ TT := tt_t (tm6 (List.mem_of_getElem? (i := 194) rfl)) rfl
theorem ly11_43 : u_lay RX11 TX11 43 ∈ TT := tt_t (tm6 (List.mem_of_getElem? (i := 196) rfl)) rfl
theorem ly11_44 : u_lay RX11 TX11 44 ∈ TT := tt_t (tm6 (List.mem_of_getElem? (i := 198) rfl)) rfl
theorem ly11_45 : u_lay RX11 TX11 45 ∈ TT := tt_t (tm6 (List.mem_of_getElem? (i := 200) rfl)) rfl
theorem ly11_46 : u_lay RX11 TX11 46 ∈ TT := tt_t (tm6 (List.mem_of_getElem? (i := 202) rfl)) rfl
theorem ly11_47 : u_lay RX11 TX11 47 ∈ TT := tt_t (tm6 (List.mem_of_getElem? (i := 204) rfl)) rfl
theorem ly11_48 : u_lay RX11 TX11 48 ∈ TT := tt_t (tm6 (List.mem_of_getElem? (i := 206) rfl)) rfl
theorem ly11_49 : u_lay RX11 TX11 49 ∈ TT := tt_t (tm6 (List.mem_of_getElem? (i := 208) rfl)) rfl
theorem ly11_50 : u_lay RX11 TX11 50 ∈ TT := tt_t (tm6 (List.mem_of_getElem? (i := 210) rfl)) rfl
theorem ly11_51 : u_lay RX11 TX11 51 ∈ TT := tt_t (tm6 (List.mem_of_getElem? (i := 212) rfl)) rfl
theorem ly11_52 : u_lay RX11 TX11 52 ∈ TT := tt_t (tm6 (List.mem_of_getElem? (i := 214) rfl)) rfl
theorem ly11_53 : u_lay RX11 TX11 53 ∈ TT := tt_t (tm6 (List.mem_of_getElem? (i := 216) rfl)) rfl
theorem ly11_54 : u_lay RX11 TX11 54 ∈ TT := tt_t (tm6 (List.mem_of_getElem? (i := 218) rfl)) rfl
theorem ly11_55 : u_lay RX11 TX11 55 ∈ TT := tt_t (tm6 (List.mem_of_getElem? (i := 220) rfl)) rfl
theorem ly11_56 : u_lay RX11 TX11 56 ∈ TT := tt_t (tm6 (List.mem_of_getElem? (i := 222) rfl)) rfl
theorem ly11_57 : u_lay RX11 TX11 57 ∈ TT := tt_t (tm6 (List.mem_of_getElem? (i := 224) rfl)) rfl
theorem ly11_58 : u_lay RX11 TX11 58 ∈ TT := tt_t (tm6 (List.mem_of_getElem? (i := 226) rfl)) rfl
theorem ly11_59 : u_lay RX11 TX11 59 ∈ TT := tt_t (tm6 (List.mem_of_getElem? (i := 228) rfl)) rfl
theorem ly11_60 : u_lay RX11 TX11 60 ∈ TT := tt_t (tm6 (List.mem_of_getElem? (i := 230) rfl)) rfl
theorem c_in11 : ∀ w ∈ u_ws RX11 TX11 61, w ∈ TT := by
  intro w h
  obtain ⟨k, hk, rfl⟩ := List.mem_map.mp h
  have hk := List.mem_range.mp hk
  match k, hk with
  | 0, _ => exact ly11_0
  | 1, _ => exact ly11_1
  | 2, _ => exact ly11_2
  | 3, _ => exact ly11_3
  | 4, _ => exact ly11_4
  | 5, _ => exact ly11_5
  | 6, _ => exact ly11_6
  | 7, _ => exact ly11_7
  | 8, _ => exact ly11_8
  | 9, _ => exact ly11_9
  | 10, _ => exact ly11_10
  | 11, _ => exact ly11_11
  | 12, _ => exact ly11_12
  | 13, _ => exact ly11_13
  | 14, _ => exact ly11_14
  | 15, _ => exact ly11_15
  | 16, _ => exact ly11_16
  | 17, _ => exact ly11_17
  | 18, _ => exact ly11_18
  | 19, _ => exact ly11_19
  | 20, _ => exact ly11_20
  | 21, _ => exact ly11_21
  | 22, _ => exact ly11_22
  | 23, _ => exact ly11_23
  | 24, _ => exact ly11_24
  | 25, _ => exact ly11_25
  | 26, _ => exact ly11_26
  | 27, _ => exact ly11_27
  | 28, _ => exact ly11_28
  | 29, _ => exact ly11_29
  | 30, _ => exact ly11_30
  | 31, _ => exact ly11_31
  | 32, _ => exact ly11_32
  | 33, _ => exact ly11_33
  | 34, _ => exact ly11_34
  | 35, _ => exact ly11_35
  | 36, _ => exact ly11_36
  | 37, _ => exact ly11_37
  | 38, _ => exact ly11_38
  | 39, _ => exact ly11_39
  | 40, _ => exact ly11_40
  | 41, _ => exact ly11_41
  | 42, _ => exact ly11_42
  | 43, _ => exact ly11_43
  | 44, _ => exact ly11_44
  | 45, _ => exact ly11_45
  | 46, _ => exact ly11_46
  | 47, _ => exact ly11_47
  | 48, _ => exact ly11_48
  | 49, _ => exact ly11_49
  | 50, _ => exact ly11_50
  | 51, _ => exact ly11_51
  | 52, _ => exact ly11_52
  | 53, _ => exact ly11_53
  | 54, _ => exact ly11_54
  | 55, _ => exact ly11_55
  | 56, _ => exact ly11_56
  | 57, _ => exact ly11_57
  | 58, _ => exact ly11_58
  | 59, _ => exact ly11_59
  | 60, _ => exact ly11_60
  | k + 61, hk => exact absurd hk (by omega)
theorem c_in : ∀ ci, ci < 12 → ∀ w ∈ u_ws (cNm ci) (cT ci) (cN ci), w ∈ TT := fun ci h => match ci, h with
  | 0, _ => c_in0
  | 1, _ => c_in1
  | 2, _ => c_in2
  | 3, _ => c_in3
  | 4, _ => c_in4
  | 5, _ => c_in5
  | 6, _ => c_in6
  | 7, _ => c_in7
  | 8, _ => c_in8
  | 9, _ => c_in9
  | 10, _ => c_in10
  | 11, _ => c_in11
  | ci + 12, h => absurd h (by omega)
theorem c_get : ∀ ci, ci < 12 → vwCl[ci]? = some (cNm ci, cT ci, cN ci) := fun ci h => match ci, h with
  | 0, _ => rfl
  | 1, _ => rfl
  | 2, _ => rfl
  | 3, _ => rfl
  | 4, _ => rfl
  | 5, _ => rfl
  | 6, _ => rfl
  | 7, _ => rfl
  | 8, _ => rfl
  | 9, _ => rfl
  | 10, _ => rfl
  | 11, _ => rfl
  | ci + 12, h => absurd h (by omega)
theorem c_ty : ∀ ci, ci < 12 → ∀ k, k < cN ci → parseFieldDescriptor (cT ci k).2.2.1 = some (cTy ci k) := fun ci h => match ci, h with
  | 0, _ => tyX0_ok
  | 1, _ => tyX1_ok
  | 2, _ => tyX2_ok
  | 3, _ => tyX3_ok
  | 4, _ => tyX4_ok
  | 5, _ => tyX5_ok
  | 6, _ => tyX6_ok
  | 7, _ => tyX7_ok
  | 8, _ => tyX8_ok
  | 9, _ => tyX9_ok
  | 10, _ => tyX10_ok
  | 11, _ => tyX11_ok
  | ci + 12, h => absurd h (by omega)
theorem c_nm : ∀ ci, ci < 12 → ∀ a, a < cN ci → ∀ b, b < cN ci → a ≠ b → (cT ci a).2.1 ≠ (cT ci b).2.1 := fun ci h => match ci, h with
  | 0, _ => nmX0
  | 1, _ => nmX1
  | 2, _ => nmX2
  | 3, _ => nmX3
  | 4, _ => nmX4
  | 5, _ => nmX5
  | 6, _ => nmX6
  | 7, _ => nmX7
  | 8, _ => nmX8
  | 9, _ => nmX9
  | 10, _ => nmX10
  | 11, _ => nmX11
  | ci + 12, h => absurd h (by omega)
theorem c_nof : ∀ ci, ci < 12 → ∀ k, k < cN ci → cTy ci k ≠ .float ∧ cTy ci k ≠ .double := fun ci h => match ci, h with
  | 0, _ => by decide +kernel
  | 1, _ => by decide +kernel
  | 2, _ => by decide +kernel
  | 3, _ => by decide +kernel
  | 4, _ => by decide +kernel
  | 5, _ => by decide +kernel
  | 6, _ => by decide +kernel
  | 7, _ => by decide +kernel
  | 8, _ => by decide +kernel
  | 9, _ => by decide +kernel
  | 10, _ => by decide +kernel
  | 11, _ => by decide +kernel
  | ci + 12, h => absurd h (by omega)
def FL (own : String) (idx ci k : Nat) : Prop := ci < 12 ∧ k < cN ci ∧ Cond.fieldLink own idx (cT ci k).1 (cT ci k).2.1 (cT ci k).2.2.1 ∈ TT
def isNest : Cond → Bool
  | .fieldLinkNest .. => true
  | .methodLinkNest .. => true
  | _ => false
def NW : List Cond := tables_1.filter isNest
def FLN (own : String) (idx ci k : Nat) : Prop := ci < 12 ∧ k < cN ci ∧ Cond.fieldLinkNest own idx (cT ci k).1 (cT ci k).2.1 (cT ci k).2.2.1 "ProofTrim" ∈ NW
theorem nw_t {w : Cond} (h : w ∈ tables_1) (g : isNest w = true) : w ∈ NW := List.mem_filter.mpr ⟨h, g⟩
theorem fl_1_11 : FL RX1 11 1 0 := ⟨by decide, by decide, tt_t (tm1 (List.mem_of_getElem? (i := 38) rfl)) rfl⟩
theorem fl_1_15 : FL RX1 15 1 1 := ⟨by decide, by decide, tt_t (tm1 (List.mem_of_getElem? (i := 39) rfl)) rfl⟩
theorem fl_1_18 : FL RX1 18 1 2 := ⟨by decide, by decide, tt_t (tm1 (List.mem_of_getElem? (i := 40) rfl)) rfl⟩
theorem fl_1_21 : FL RX1 21 1 3 := ⟨by decide, by decide, tt_t (tm1 (List.mem_of_getElem? (i := 41) rfl)) rfl⟩
theorem fl_1_25 : FL RX1 25 1 4 := ⟨by decide, by decide, tt_t (tm1 (List.mem_of_getElem? (i := 42) rfl)) rfl⟩
theorem fl_1_28 : FL RX1 28 1 5 := ⟨by decide, by decide, tt_t (tm1 (List.mem_of_getElem? (i := 43) rfl)) rfl⟩
theorem fl_1_31 : FL RX1 31 1 6 := ⟨by decide, by decide, tt_t (tm1 (List.mem_of_getElem? (i := 44) rfl)) rfl⟩
theorem fl_1_38 : FL RX1 38 1 7 := ⟨by decide, by decide, tt_t (tm1 (List.mem_of_getElem? (i := 45) rfl)) rfl⟩
theorem fl_1_59 : FL RX1 59 1 8 := ⟨by decide, by decide, tt_t (tm1 (List.mem_of_getElem? (i := 46) rfl)) rfl⟩
theorem fl_2_9 : FL RX2 9 2 0 := ⟨by decide, by decide, tt_t (tm1 (List.mem_of_getElem? (i := 74) rfl)) rfl⟩
theorem fl_2_15 : FL RX2 15 2 1 := ⟨by decide, by decide, tt_t (tm1 (List.mem_of_getElem? (i := 75) rfl)) rfl⟩
theorem fl_2_18 : FL RX2 18 2 2 := ⟨by decide, by decide, tt_t (tm1 (List.mem_of_getElem? (i := 76) rfl)) rfl⟩
theorem fl_2_21 : FL RX2 21 2 3 := ⟨by decide, by decide, tt_t (tm1 (List.mem_of_getElem? (i := 77) rfl)) rfl⟩
theorem fn_0_39 : FLN RX0 39 2 3 := ⟨by decide, by decide, nw_t (tm1 (List.mem_of_getElem? (i := 78) rfl)) rfl⟩
theorem fn_10_138 : FLN RX10 138 2 3 := ⟨by decide, by decide, nw_t (tm1 (List.mem_of_getElem? (i := 79) rfl)) rfl⟩
theorem fn_4_42 : FLN RX4 42 2 3 := ⟨by decide, by decide, nw_t (tm1 (List.mem_of_getElem? (i := 80) rfl)) rfl⟩
theorem fn_5_85 : FLN RX5 85 2 3 := ⟨by decide, by decide, nw_t (tm1 (List.mem_of_getElem? (i := 81) rfl)) rfl⟩
theorem fl_6_39 : FL RX6 39 6 0 := ⟨by decide, by decide, tt_t (tm1 (List.mem_of_getElem? (i := 145) rfl)) rfl⟩
theorem fl_6_43 : FL RX6 43 6 1 := ⟨by decide, by decide, tt_t (tm1 (List.mem_of_getElem? (i := 146) rfl)) rfl⟩
theorem fl_6_9 : FL RX6 9 6 2 := ⟨by decide, by decide, tt_t (tm1 (List.mem_of_getElem? (i := 147) rfl)) rfl⟩
theorem fl_6_18 : FL RX6 18 6 3 := ⟨by decide, by decide, tt_t (tm1 (List.mem_of_getElem? (i := 148) rfl)) rfl⟩
theorem fn_10_129 : FLN RX10 129 6 3 := ⟨by decide, by decide, nw_t (tm1 (List.mem_of_getElem? (i := 149) rfl)) rfl⟩
theorem fl_6_22 : FL RX6 22 6 4 := ⟨by decide, by decide, tt_t (tm1 (List.mem_of_getElem? (i := 150) rfl)) rfl⟩
theorem fl_6_26 : FL RX6 26 6 5 := ⟨by decide, by decide, tt_t (tm1 (List.mem_of_getElem? (i := 151) rfl)) rfl⟩
theorem fl_6_157 : FL RX6 157 6 6 := ⟨by decide, by decide, tt_t (tm1 (List.mem_of_getElem? (i := 152) rfl)) rfl⟩
theorem fl_6_29 : FL RX6 29 6 7 := ⟨by decide, by decide, tt_t (tm1 (List.mem_of_getElem? (i := 153) rfl)) rfl⟩
theorem fl_6_160 : FL RX6 160 6 8 := ⟨by decide, by decide, tt_t (tm1 (List.mem_of_getElem? (i := 154) rfl)) rfl⟩
theorem fl_6_32 : FL RX6 32 6 9 := ⟨by decide, by decide, tt_t (tm1 (List.mem_of_getElem? (i := 155) rfl)) rfl⟩
theorem fl_6_59 : FL RX6 59 6 10 := ⟨by decide, by decide, tt_t (tm1 (List.mem_of_getElem? (i := 156) rfl)) rfl⟩
theorem fl_6_62 : FL RX6 62 6 11 := ⟨by decide, by decide, tt_t (tm1 (List.mem_of_getElem? (i := 157) rfl)) rfl⟩
theorem fl_6_68 : FL RX6 68 6 12 := ⟨by decide, by decide, tt_t (tm1 (List.mem_of_getElem? (i := 158) rfl)) rfl⟩
theorem fl_6_75 : FL RX6 75 6 13 := ⟨by decide, by decide, tt_t (tm1 (List.mem_of_getElem? (i := 159) rfl)) rfl⟩
theorem fl_6_71 : FL RX6 71 6 14 := ⟨by decide, by decide, tt_t (tm1 (List.mem_of_getElem? (i := 160) rfl)) rfl⟩
theorem fn_10_148 : FLN RX10 148 6 15 := ⟨by decide, by decide, nw_t (tm1 (List.mem_of_getElem? (i := 161) rfl)) rfl⟩
theorem fl_6_138 : FL RX6 138 6 15 := ⟨by decide, by decide, tt_t (tm1 (List.mem_of_getElem? (i := 162) rfl)) rfl⟩
theorem fn_10_145 : FLN RX10 145 6 16 := ⟨by decide, by decide, nw_t (tm1 (List.mem_of_getElem? (i := 163) rfl)) rfl⟩
theorem fl_6_128 : FL RX6 128 6 16 := ⟨by decide, by decide, tt_t (tm1 (List.mem_of_getElem? (i := 164) rfl)) rfl⟩
theorem fl_6_65 : FL RX6 65 6 17 := ⟨by decide, by decide, tt_t (tm1 (List.mem_of_getElem? (i := 165) rfl)) rfl⟩
theorem fn_10_126 : FLN RX10 126 6 17 := ⟨by decide, by decide, nw_t (tm1 (List.mem_of_getElem? (i := 166) rfl)) rfl⟩
theorem fl_6_35 : FL RX6 35 6 18 := ⟨by decide, by decide, tt_t (tm1 (List.mem_of_getElem? (i := 167) rfl)) rfl⟩
theorem fn_10_174 : FLN RX10 174 6 18 := ⟨by decide, by decide, nw_t (tm1 (List.mem_of_getElem? (i := 168) rfl)) rfl⟩
theorem fl_9_9 : FL RX9 9 9 0 := ⟨by decide, by decide, tt_t (tm1 (List.mem_of_getElem? (i := 216) rfl)) rfl⟩
theorem fl_9_15 : FL RX9 15 9 1 := ⟨by decide, by decide, tt_t (tm1 (List.mem_of_getElem? (i := 217) rfl)) rfl⟩
theorem fl_9_18 : FL RX9 18 9 2 := ⟨by decide, by decide, tt_t (tm1 (List.mem_of_getElem? (i := 218) rfl)) rfl⟩
theorem fn_3_54 : FLN RX3 54 9 2 := ⟨by decide, by decide, nw_t (tm1 (List.mem_of_getElem? (i := 219) rfl)) rfl⟩
theorem fn_7_61 : FLN RX7 61 9 2 := ⟨by decide, by decide, nw_t (tm1 (List.mem_of_getElem? (i := 220) rfl)) rfl⟩
theorem fn_10_171 : FLN RX10 171 9 2 := ⟨by decide, by decide, nw_t (tm1 (List.mem_of_getElem? (i := 221) rfl)) rfl⟩
theorem fn_8_72 : FLN RX8 72 9 2 := ⟨by decide, by decide, nw_t (tm1 (List.mem_of_getElem? (i := 222) rfl)) rfl⟩
theorem fn_6_173 : FLN RX6 173 9 2 := ⟨by decide, by decide, nw_t (tm1 (List.mem_of_getElem? (i := 223) rfl)) rfl⟩
theorem fl_9_22 : FL RX9 22 9 3 := ⟨by decide, by decide, tt_t (tm1 (List.mem_of_getElem? (i := 224) rfl)) rfl⟩
theorem fn_7_65 : FLN RX7 65 9 3 := ⟨by decide, by decide, nw_t (tm1 (List.mem_of_getElem? (i := 225) rfl)) rfl⟩
theorem fl_3_39 : FL RX3 39 3 0 := ⟨by decide, by decide, tt_t (tm2 (List.mem_of_getElem? (i := 3) rfl)) rfl⟩
theorem fl_3_43 : FL RX3 43 3 1 := ⟨by decide, by decide, tt_t (tm2 (List.mem_of_getElem? (i := 4) rfl)) rfl⟩
theorem fl_3_50 : FL RX3 50 3 2 := ⟨by decide, by decide, tt_t (tm2 (List.mem_of_getElem? (i := 5) rfl)) rfl⟩
theorem fn_8_66 : FLN RX8 66 3 2 := ⟨by decide, by decide, nw_t (tm2 (List.mem_of_getElem? (i := 6) rfl)) rfl⟩
theorem fn_4_74 : FLN RX4 74 3 2 := ⟨by decide, by decide, nw_t (tm2 (List.mem_of_getElem? (i := 7) rfl)) rfl⟩
theorem fl_3_9 : FL RX3 9 3 3 := ⟨by decide, by decide, tt_t (tm2 (List.mem_of_getElem? (i := 8) rfl)) rfl⟩
theorem fl_3_15 : FL RX3 15 3 4 := ⟨by decide, by decide, tt_t (tm2 (List.mem_of_getElem? (i := 9) rfl)) rfl⟩
theorem fl_3_18 : FL RX3 18 3 5 := ⟨by decide, by decide, tt_t (tm2 (List.mem_of_getElem? (i := 10) rfl)) rfl⟩
theorem fl_3_21 : FL RX3 21 3 6 := ⟨by decide, by decide, tt_t (tm2 (List.mem_of_getElem? (i := 11) rfl)) rfl⟩
theorem fl_3_24 : FL RX3 24 3 7 := ⟨by decide, by decide, tt_t (tm2 (List.mem_of_getElem? (i := 12) rfl)) rfl⟩
theorem fl_3_27 : FL RX3 27 3 8 := ⟨by decide, by decide, tt_t (tm2 (List.mem_of_getElem? (i := 13) rfl)) rfl⟩
theorem fl_3_30 : FL RX3 30 3 9 := ⟨by decide, by decide, tt_t (tm2 (List.mem_of_getElem? (i := 14) rfl)) rfl⟩
theorem fl_3_33 : FL RX3 33 3 10 := ⟨by decide, by decide, tt_t (tm2 (List.mem_of_getElem? (i := 15) rfl)) rfl⟩
theorem fl_3_36 : FL RX3 36 3 11 := ⟨by decide, by decide, tt_t (tm2 (List.mem_of_getElem? (i := 16) rfl)) rfl⟩
theorem fl_3_68 : FL RX3 68 3 12 := ⟨by decide, by decide, tt_t (tm2 (List.mem_of_getElem? (i := 17) rfl)) rfl⟩
theorem fn_4_53 : FLN RX4 53 3 12 := ⟨by decide, by decide, nw_t (tm2 (List.mem_of_getElem? (i := 18) rfl)) rfl⟩
theorem fl_7_27 : FL RX7 27 7 0 := ⟨by decide, by decide, tt_t (tm2 (List.mem_of_getElem? (i := 54) rfl)) rfl⟩
theorem fl_7_12 : FL RX7 12 7 1 := ⟨by decide, by decide, tt_t (tm2 (List.mem_of_getElem? (i := 55) rfl)) rfl⟩
theorem fl_7_18 : FL RX7 18 7 2 := ⟨by decide, by decide, tt_t (tm2 (List.mem_of_getElem? (i := 56) rfl)) rfl⟩
theorem fl_7_21 : FL RX7 21 7 3 := ⟨by decide, by decide, tt_t (tm2 (List.mem_of_getElem? (i := 57) rfl)) rfl⟩
theorem fl_7_24 : FL RX7 24 7 4 := ⟨by decide, by decide, tt_t (tm2 (List.mem_of_getElem? (i := 58) rfl)) rfl⟩
theorem fl_8_9 : FL RX8 9 8 0 := ⟨by decide, by decide, tt_t (tm2 (List.mem_of_getElem? (i := 76) rfl)) rfl⟩
theorem fl_8_15 : FL RX8 15 8 1 := ⟨by decide, by decide, tt_t (tm2 (List.mem_of_getElem? (i := 77) rfl)) rfl⟩
theorem fl_8_19 : FL RX8 19 8 2 := ⟨by decide, by decide, tt_t (tm2 (List.mem_of_getElem? (i := 78) rfl)) rfl⟩
theorem fl_8_23 : FL RX8 23 8 3 := ⟨by decide, by decide, tt_t (tm2 (List.mem_of_getElem? (i := 79) rfl)) rfl⟩
theorem fn_10_204 : FLN RX10 204 8 3 := ⟨by decide, by decide, nw_t (tm2 (List.mem_of_getElem? (i := 80) rfl)) rfl⟩
theorem fl_8_26 : FL RX8 26 8 4 := ⟨by decide, by decide, tt_t (tm2 (List.mem_of_getElem? (i := 81) rfl)) rfl⟩
theorem fn_10_201 : FLN RX10 201 8 4 := ⟨by decide, by decide, nw_t (tm2 (List.mem_of_getElem? (i := 82) rfl)) rfl⟩
theorem fl_4_30 : FL RX4 30 4 0 := ⟨by decide, by decide, tt_t (tm2 (List.mem_of_getElem? (i := 100) rfl)) rfl⟩
theorem fl_4_11 : FL RX4 11 4 1 := ⟨by decide, by decide, tt_t (tm2 (List.mem_of_getElem? (i := 101) rfl)) rfl⟩
theorem fl_4_15 : FL RX4 15 4 2 := ⟨by decide, by decide, tt_t (tm2 (List.mem_of_getElem? (i := 102) rfl)) rfl⟩
theorem fl_4_18 : FL RX4 18 4 3 := ⟨by decide, by decide, tt_t (tm2 (List.mem_of_getElem? (i := 103) rfl)) rfl⟩
theorem fl_4_21 : FL RX4 21 4 4 := ⟨by decide, by decide, tt_t (tm2 (List.mem_of_getElem? (i := 104) rfl)) rfl⟩
theorem fl_4_24 : FL RX4 24 4 5 := ⟨by decide, by decide, tt_t (tm2 (List.mem_of_getElem? (i := 105) rfl)) rfl⟩
theorem fl_4_27 : FL RX4 27 4 6 := ⟨by decide, by decide, tt_t (tm2 (List.mem_of_getElem? (i := 106) rfl)) rfl⟩
theorem fl_4_38 : FL RX4 38 4 7 := ⟨by decide, by decide, tt_t (tm2 (List.mem_of_getElem? (i := 107) rfl)) rfl⟩
theorem fn_10_285 : FLN RX10 285 4 7 := ⟨by decide, by decide, nw_t (tm2 (List.mem_of_getElem? (i := 108) rfl)) rfl⟩
theorem fl_5_30 : FL RX5 30 5 0 := ⟨by decide, by decide, tt_t (tm2 (List.mem_of_getElem? (i := 132) rfl)) rfl⟩
theorem fl_5_11 : FL RX5 11 5 1 := ⟨by decide, by decide, tt_t (tm2 (List.mem_of_getElem? (i := 133) rfl)) rfl⟩
theorem fl_5_17 : FL RX5 17 5 2 := ⟨by decide, by decide, tt_t (tm2 (List.mem_of_getElem? (i := 134) rfl)) rfl⟩
theorem fl_5_20 : FL RX5 20 5 3 := ⟨by decide, by decide, tt_t (tm2 (List.mem_of_getElem? (i := 135) rfl)) rfl⟩
theorem fl_5_23 : FL RX5 23 5 4 := ⟨by decide, by decide, tt_t (tm2 (List.mem_of_getElem? (i := 136) rfl)) rfl⟩
theorem fl_5_26 : FL RX5 26 5 5 := ⟨by decide, by decide, tt_t (tm2 (List.mem_of_getElem? (i := 137) rfl)) rfl⟩
theorem fl_5_51 : FL RX5 51 5 6 := ⟨by decide, by decide, tt_t (tm2 (List.mem_of_getElem? (i := 138) rfl)) rfl⟩
theorem fn_0_72 : FLN RX0 72 5 6 := ⟨by decide, by decide, nw_t (tm2 (List.mem_of_getElem? (i := 139) rfl)) rfl⟩
theorem fl_0_28 : FL RX0 28 0 0 := ⟨by decide, by decide, tt_t (tm2 (List.mem_of_getElem? (i := 161) rfl)) rfl⟩
theorem fl_0_9 : FL RX0 9 0 1 := ⟨by decide, by decide, tt_t (tm2 (List.mem_of_getElem? (i := 162) rfl)) rfl⟩
theorem fl_0_15 : FL RX0 15 0 2 := ⟨by decide, by decide, tt_t (tm2 (List.mem_of_getElem? (i := 163) rfl)) rfl⟩
theorem fl_0_19 : FL RX0 19 0 3 := ⟨by decide, by decide, tt_t (tm2 (List.mem_of_getElem? (i := 164) rfl)) rfl⟩
theorem fl_0_22 : FL RX0 22 0 4 := ⟨by decide, by decide, tt_t (tm2 (List.mem_of_getElem? (i := 165) rfl)) rfl⟩
theorem fl_0_25 : FL RX0 25 0 5 := ⟨by decide, by decide, tt_t (tm2 (List.mem_of_getElem? (i := 166) rfl)) rfl⟩
theorem fl_0_35 : FL RX0 35 0 6 := ⟨by decide, by decide, tt_t (tm2 (List.mem_of_getElem? (i := 167) rfl)) rfl⟩
theorem fl_0_79 : FL RX0 79 0 7 := ⟨by decide, by decide, tt_t (tm2 (List.mem_of_getElem? (i := 168) rfl)) rfl⟩
theorem fl_0_57 : FL RX0 57 0 8 := ⟨by decide, by decide, tt_t (tm2 (List.mem_of_getElem? (i := 169) rfl)) rfl⟩
theorem fl_0_80 : FL RX0 80 0 9 := ⟨by decide, by decide, tt_t (tm2 (List.mem_of_getElem? (i := 170) rfl)) rfl⟩
theorem fl_0_65 : FL RX0 65 0 10 := ⟨by decide, by decide, tt_t (tm2 (List.mem_of_getElem? (i := 171) rfl)) rfl⟩
theorem fl_10_9 : FL RX10 9 10 0 := ⟨by decide, by decide, tt_t (tm2 (List.mem_of_getElem? (i := 195) rfl)) rfl⟩
theorem fl_10_112 : FL RX10 112 10 1 := ⟨by decide, by decide, tt_t (tm2 (List.mem_of_getElem? (i := 196) rfl)) rfl⟩
theorem fl_10_16 : FL RX10 16 10 2 := ⟨by decide, by decide, tt_t (tm2 (List.mem_of_getElem? (i := 197) rfl)) rfl⟩
theorem fl_10_23 : FL RX10 23 10 3 := ⟨by decide, by decide, tt_t (tm2 (List.mem_of_getElem? (i := 198) rfl)) rfl⟩
theorem fl_10_32 : FL RX10 32 10 4 := ⟨by decide, by decide, tt_t (tm2 (List.mem_of_getElem? (i := 199) rfl)) rfl⟩
theorem fl_10_38 : FL RX10 38 10 5 := ⟨by decide, by decide, tt_t (tm2 (List.mem_of_getElem? (i := 200) rfl)) rfl⟩
theorem fl_10_43 : FL RX10 43 10 6 := ⟨by decide, by decide, tt_t (tm2 (List.mem_of_getElem? (i := 201) rfl)) rfl⟩
theorem fl_10_52 : FL RX10 52 10 7 := ⟨by decide, by decide, tt_t (tm2 (List.mem_of_getElem? (i := 202) rfl)) rfl⟩
theorem fl_10_61 : FL RX10 61 10 8 := ⟨by decide, by decide, tt_t (tm2 (List.mem_of_getElem? (i := 203) rfl)) rfl⟩
theorem fl_10_68 : FL RX10 68 10 9 := ⟨by decide, by decide, tt_t (tm2 (List.mem_of_getElem? (i := 204) rfl)) rfl⟩
theorem fl_10_77 : FL RX10 77 10 10 := ⟨by decide, by decide, tt_t (tm2 (List.mem_of_getElem? (i := 205) rfl)) rfl⟩
theorem fl_10_86 : FL RX10 86 10 11 := ⟨by decide, by decide, tt_t (tm2 (List.mem_of_getElem? (i := 206) rfl)) rfl⟩
theorem fl_10_95 : FL RX10 95 10 12 := ⟨by decide, by decide, tt_t (tm2 (List.mem_of_getElem? (i := 207) rfl)) rfl⟩
theorem fl_10_99 : FL RX10 99 10 13 := ⟨by decide, by decide, tt_t (tm2 (List.mem_of_getElem? (i := 208) rfl)) rfl⟩
theorem fl_10_102 : FL RX10 102 10 14 := ⟨by decide, by decide, tt_t (tm2 (List.mem_of_getElem? (i := 209) rfl)) rfl⟩
theorem fl_10_180 : FL RX10 180 10 15 := ⟨by decide, by decide, tt_t (tm2 (List.mem_of_getElem? (i := 210) rfl)) rfl⟩
theorem fl_10_105 : FL RX10 105 10 16 := ⟨by decide, by decide, tt_t (tm2 (List.mem_of_getElem? (i := 211) rfl)) rfl⟩
theorem fl_10_109 : FL RX10 109 10 17 := ⟨by decide, by decide, tt_t (tm2 (List.mem_of_getElem? (i := 212) rfl)) rfl⟩
theorem fl_11_1 : FL RX11 1 11 0 := ⟨by decide, by decide, tt_t (tm6 (List.mem_of_getElem? (i := 49) rfl)) rfl⟩
theorem fl_11_13 : FL RX11 13 11 1 := ⟨by decide, by decide, tt_t (tm6 (List.mem_of_getElem? (i := 50) rfl)) rfl⟩
theorem fl_11_17 : FL RX11 17 11 2 := ⟨by decide, by decide, tt_t (tm6 (List.mem_of_getElem? (i := 51) rfl)) rfl⟩
theorem fl_11_20 : FL RX11 20 11 3 := ⟨by decide, by decide, tt_t (tm6 (List.mem_of_getElem? (i := 52) rfl)) rfl⟩
theorem fl_11_23 : FL RX11 23 11 4 := ⟨by decide, by decide, tt_t (tm6 (List.mem_of_getElem? (i := 53) rfl)) rfl⟩
theorem fl_11_26 : FL RX11 26 11 5 := ⟨by decide, by decide, tt_t (tm6 (List.mem_of_getElem? (i := 54) rfl)) rfl⟩
theorem fl_11_29 : FL RX11 29 11 6 := ⟨by decide, by decide, tt_t (tm6 (List.mem_of_getElem? (i := 55) rfl)) rfl⟩
theorem fl_11_137 : FL RX11 137 11 7 := ⟨by decide, by decide, tt_t (tm6 (List.mem_of_getElem? (i := 56) rfl)) rfl⟩
theorem fl_11_140 : FL RX11 140 11 8 := ⟨by decide, by decide, tt_t (tm6 (List.mem_of_getElem? (i := 57) rfl)) rfl⟩
theorem fl_11_32 : FL RX11 32 11 9 := ⟨by decide, by decide, tt_t (tm6 (List.mem_of_getElem? (i := 58) rfl)) rfl⟩
theorem fl_11_35 : FL RX11 35 11 10 := ⟨by decide, by decide, tt_t (tm6 (List.mem_of_getElem? (i := 59) rfl)) rfl⟩
theorem fl_11_38 : FL RX11 38 11 11 := ⟨by decide, by decide, tt_t (tm6 (List.mem_of_getElem? (i := 60) rfl)) rfl⟩
theorem fl_11_41 : FL RX11 41 11 12 := ⟨by decide, by decide, tt_t (tm6 (List.mem_of_getElem? (i := 61) rfl)) rfl⟩
theorem fl_11_44 : FL RX11 44 11 13 := ⟨by decide, by decide, tt_t (tm6 (List.mem_of_getElem? (i := 62) rfl)) rfl⟩
theorem fl_11_47 : FL RX11 47 11 14 := ⟨by decide, by decide, tt_t (tm6 (List.mem_of_getElem? (i := 63) rfl)) rfl⟩
theorem fl_11_144 : FL RX11 144 11 15 := ⟨by decide, by decide, tt_t (tm6 (List.mem_of_getElem? (i := 64) rfl)) rfl⟩
theorem fl_11_134 : FL RX11 134 11 16 := ⟨by decide, by decide, tt_t (tm6 (List.mem_of_getElem? (i := 65) rfl)) rfl⟩
theorem fl_11_50 : FL RX11 50 11 17 := ⟨by decide, by decide, tt_t (tm6 (List.mem_of_getElem? (i := 66) rfl)) rfl⟩
theorem fl_11_53 : FL RX11 53 11 18 := ⟨by decide, by decide, tt_t (tm6 (List.mem_of_getElem? (i := 67) rfl)) rfl⟩
theorem fl_11_56 : FL RX11 56 11 19 := ⟨by decide, by decide, tt_t (tm6 (List.mem_of_getElem? (i := 68) rfl)) rfl⟩
theorem fl_11_59 : FL RX11 59 11 20 := ⟨by decide, by decide, tt_t (tm6 (List.mem_of_getElem? (i := 69) rfl)) rfl⟩
theorem fl_11_62 : FL RX11 62 11 21 := ⟨by decide, by decide, tt_t (tm6 (List.mem_of_getElem? (i := 70) rfl)) rfl⟩
theorem fl_11_65 : FL RX11 65 11 22 := ⟨by decide, by decide, tt_t (tm6 (List.mem_of_getElem? (i := 71) rfl)) rfl⟩
theorem fl_11_68 : FL RX11 68 11 23 := ⟨by decide, by decide, tt_t (tm6 (List.mem_of_getElem? (i := 72) rfl)) rfl⟩
theorem fl_11_151 : FL RX11 151 11 24 := ⟨by decide, by decide, tt_t (tm6 (List.mem_of_getElem? (i := 73) rfl)) rfl⟩
theorem fl_11_303 : FL RX11 303 11 25 := ⟨by decide, by decide, tt_t (tm6 (List.mem_of_getElem? (i := 74) rfl)) rfl⟩
theorem fl_11_71 : FL RX11 71 11 26 := ⟨by decide, by decide, tt_t (tm6 (List.mem_of_getElem? (i := 75) rfl)) rfl⟩
theorem fl_11_154 : FL RX11 154 11 27 := ⟨by decide, by decide, tt_t (tm6 (List.mem_of_getElem? (i := 76) rfl)) rfl⟩
theorem fl_11_160 : FL RX11 160 11 28 := ⟨by decide, by decide, tt_t (tm6 (List.mem_of_getElem? (i := 77) rfl)) rfl⟩
theorem fl_11_157 : FL RX11 157 11 29 := ⟨by decide, by decide, tt_t (tm6 (List.mem_of_getElem? (i := 78) rfl)) rfl⟩
theorem fl_11_163 : FL RX11 163 11 30 := ⟨by decide, by decide, tt_t (tm6 (List.mem_of_getElem? (i := 79) rfl)) rfl⟩
theorem fl_11_166 : FL RX11 166 11 31 := ⟨by decide, by decide, tt_t (tm6 (List.mem_of_getElem? (i := 80) rfl)) rfl⟩
theorem fl_11_201 : FL RX11 201 11 32 := ⟨by decide, by decide, tt_t (tm6 (List.mem_of_getElem? (i := 81) rfl)) rfl⟩
theorem fl_11_75 : FL RX11 75 11 33 := ⟨by decide, by decide, tt_t (tm6 (List.mem_of_getElem? (i := 82) rfl)) rfl⟩
theorem fl_11_213 : FL RX11 213 11 34 := ⟨by decide, by decide, tt_t (tm6 (List.mem_of_getElem? (i := 83) rfl)) rfl⟩
theorem fl_11_224 : FL RX11 224 11 35 := ⟨by decide, by decide, tt_t (tm6 (List.mem_of_getElem? (i := 84) rfl)) rfl⟩
theorem fl_11_78 : FL RX11 78 11 36 := ⟨by decide, by decide, tt_t (tm6 (List.mem_of_getElem? (i := 85) rfl)) rfl⟩
theorem fl_11_81 : FL RX11 81 11 37 := ⟨by decide, by decide, tt_t (tm6 (List.mem_of_getElem? (i := 86) rfl)) rfl⟩
theorem fl_11_84 : FL RX11 84 11 38 := ⟨by decide, by decide, tt_t (tm6 (List.mem_of_getElem? (i := 87) rfl)) rfl⟩
theorem fl_11_247 : FL RX11 247 11 39 := ⟨by decide, by decide, tt_t (tm6 (List.mem_of_getElem? (i := 88) rfl)) rfl⟩
theorem fl_11_87 : FL RX11 87 11 40 := ⟨by decide, by decide, tt_t (tm6 (List.mem_of_getElem? (i := 89) rfl)) rfl⟩
theorem fl_11_90 : FL RX11 90 11 41 := ⟨by decide, by decide, tt_t (tm6 (List.mem_of_getElem? (i := 90) rfl)) rfl⟩
theorem fl_11_93 : FL RX11 93 11 42 := ⟨by decide, by decide, tt_t (tm6 (List.mem_of_getElem? (i := 91) rfl)) rfl⟩
theorem fl_11_283 : FL RX11 283 11 43 := ⟨by decide, by decide, tt_t (tm6 (List.mem_of_getElem? (i := 92) rfl)) rfl⟩
theorem fl_11_96 : FL RX11 96 11 44 := ⟨by decide, by decide, tt_t (tm6 (List.mem_of_getElem? (i := 93) rfl)) rfl⟩
theorem fl_11_99 : FL RX11 99 11 45 := ⟨by decide, by decide, tt_t (tm6 (List.mem_of_getElem? (i := 94) rfl)) rfl⟩
theorem fl_11_352 : FL RX11 352 11 46 := ⟨by decide, by decide, tt_t (tm6 (List.mem_of_getElem? (i := 95) rfl)) rfl⟩
theorem fl_11_358 : FL RX11 358 11 47 := ⟨by decide, by decide, tt_t (tm6 (List.mem_of_getElem? (i := 96) rfl)) rfl⟩
theorem fl_11_361 : FL RX11 361 11 48 := ⟨by decide, by decide, tt_t (tm6 (List.mem_of_getElem? (i := 97) rfl)) rfl⟩
theorem fl_11_364 : FL RX11 364 11 49 := ⟨by decide, by decide, tt_t (tm6 (List.mem_of_getElem? (i := 98) rfl)) rfl⟩
theorem fl_11_367 : FL RX11 367 11 50 := ⟨by decide, by decide, tt_t (tm6 (List.mem_of_getElem? (i := 99) rfl)) rfl⟩
theorem fl_11_102 : FL RX11 102 11 51 := ⟨by decide, by decide, tt_t (tm6 (List.mem_of_getElem? (i := 100) rfl)) rfl⟩
theorem fl_11_105 : FL RX11 105 11 52 := ⟨by decide, by decide, tt_t (tm6 (List.mem_of_getElem? (i := 101) rfl)) rfl⟩
theorem fl_11_108 : FL RX11 108 11 53 := ⟨by decide, by decide, tt_t (tm6 (List.mem_of_getElem? (i := 102) rfl)) rfl⟩
theorem fl_11_111 : FL RX11 111 11 54 := ⟨by decide, by decide, tt_t (tm6 (List.mem_of_getElem? (i := 103) rfl)) rfl⟩
theorem fl_11_114 : FL RX11 114 11 55 := ⟨by decide, by decide, tt_t (tm6 (List.mem_of_getElem? (i := 104) rfl)) rfl⟩
theorem fl_11_414 : FL RX11 414 11 56 := ⟨by decide, by decide, tt_t (tm6 (List.mem_of_getElem? (i := 105) rfl)) rfl⟩
theorem fl_11_117 : FL RX11 117 11 57 := ⟨by decide, by decide, tt_t (tm6 (List.mem_of_getElem? (i := 106) rfl)) rfl⟩
theorem fl_11_120 : FL RX11 120 11 58 := ⟨by decide, by decide, tt_t (tm6 (List.mem_of_getElem? (i := 107) rfl)) rfl⟩
theorem fl_11_426 : FL RX11 426 11 59 := ⟨by decide, by decide, tt_t (tm6 (List.mem_of_getElem? (i := 108) rfl)) rfl⟩
theorem fl_11_124 : FL RX11 124 11 60 := ⟨by decide, by decide, tt_t (tm6 (List.mem_of_getElem? (i := 109) rfl)) rfl⟩
