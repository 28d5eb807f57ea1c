/-! THE LAW on a script of at most six numbers -/
def PairOk (y1 : MethodName) (c1 : ByteArray) (n1 : Nat) (y2 : MethodName) (c2 : ByteArray) (n2 : Nat) (X : Nat × (Nat → Int32)) (As : List Value) : Prop := ∃ r : Int32, (∀ M, Cw 126 Lj134 fs42 gs31 M → AM y1 c1 n1 (some .int) true 20 0 0 X (.ref 0 :: As) M (fun v M1 => v = some (.int r) ∧ Fm M1)) ∧ ∀ M, Fm M → AM y2 c2 n2 (some .int) true 20 0 0 X (.ref 89 :: As) M (fun v M1 => v = some (.int r) ∧ True)
theorem tri (n : Int32) : n < 0 ∨ n = 0 ∨ 0 < n := by
  by_cases h1 : n < 0
  · exact Or.inl h1
  · by_cases h2 : 0 < n
    · exact Or.inr (Or.inr h2)
    · obtain ⟨j, hj, e⟩ := nI_of2 (M := 0) (n := 0) rfl h1 (Int32.not_lt.mp h2)
      have : j = 0 := by omega
      subst this
      exact Or.inr (Or.inl e)
theorem quad (w : Int32) : (w.toInt < 0 ∨ 3 < w.toInt) ∨ w = 0 ∨ w = 1 ∨ w = 2 ∨ w = 3 := by
  by_cases h : w.toInt < 0 ∨ 3 < w.toInt
  · exact Or.inl h
  · have e3 : (3 : Int32).toInt = 3 := rfl
    have e0 : (0 : Int32).toInt = 0 := rfl
    obtain ⟨j, hj, e⟩ := nI_of2 (x := w) (M := 3) (n := 3) rfl (fun q => h (Or.inl (by have := Int32.lt_iff_toInt_lt.mp q; omega))) (Int32.le_iff_toInt_le.mpr (by omega))
    match j, hj, e with
    | 0, _, e => exact Or.inr (Or.inl e)
    | 1, _, e => exact Or.inr (Or.inr (Or.inl e))
    | 2, _, e => exact Or.inr (Or.inr (Or.inr (Or.inl e)))
    | 3, _, e => exact Or.inr (Or.inr (Or.inr (Or.inr e)))
theorem pr_feed (X : Nat × (Nat → Int32)) (a : Int32) (b : Int32) (c : Int32) (d : Int32) (e : Int32) : PairOk yX10_feed cX10_feed 6 yX11_feed cX11_feed 8 X [.int a, .int b, .int c, .int d, .int e] := by
  exact ⟨_, fun _ h => p_feed (fr := 12) a b c d e  h, fun _ h => q_feed (fr := 8) a b c d e  (cm_of h)⟩
theorem pr_hypotheses (X : Nat × (Nat → Int32)) (n : Int32) : PairOk yX10_hypotheses cX10_hypotheses 3 yX11_hypotheses cX11_hypotheses 3 X [.int n] := by
  rcases tri n with hn | rfl | hn
  · exact ⟨_, fun _ h => p_hypotheses_n (fr := 12) n hn h, fun _ h => q_hypotheses_n (fr := 8) n hn (cm_of h)⟩
  · exact ⟨_, fun _ h => p_hypotheses_0 (fr := 12)   h, fun _ h => q_hypotheses_0 (fr := 8)   (cm_of h)⟩
  · exact ⟨_, fun _ h => p_hypotheses_p (fr := 12) n hn h, fun _ h => q_hypotheses_p (fr := 8) n hn (cm_of h)⟩
theorem pr_goal (X : Nat × (Nat → Int32)) (n : Int32) : PairOk yX10_goal cX10_goal 3 yX11_goal cX11_goal 3 X [.int n] := by
  rcases tri n with hn | rfl | hn
  · exact ⟨_, fun _ h => p_goal_n (fr := 12) n hn h, fun _ h => q_goal_n (fr := 8) n hn (cm_of h)⟩
  · exact ⟨_, fun _ h => p_goal_0 (fr := 12)   h, fun _ h => q_goal_0 (fr := 8)   (cm_of h)⟩
  · exact ⟨_, fun _ h => p_goal_p (fr := 12) n hn h, fun _ h => q_goal_p (fr := 8) n hn (cm_of h)⟩
theorem pr_proof (X : Nat × (Nat → Int32)) (x : Int32) (n : Int32) : PairOk yX10_proof cX10_proof 4 yX11_proof cX11_proof 3 X [.int x, .int n] := by
  by_cases hb : x < 0 ∨ 4 ≤ x
  · exact ⟨_, fun _ h => p_proof_b (fr := 12) x n hb h, fun _ h => q_proof_b (fr := 8) x n hb (cm_of h)⟩
  · rcases tri n with hn | rfl | hn
    · exact ⟨_, fun _ h => p_proof_n (fr := 12) x hb n hn h, fun _ h => q_proof_n (fr := 8) x hb n hn (cm_of h)⟩
    · exact ⟨_, fun _ h => p_proof_0 (fr := 12) x hb h, fun _ h => q_proof_0 (fr := 8) x hb (cm_of h)⟩
    · exact ⟨_, fun _ h => p_proof_p (fr := 12) x hb n hn h, fun _ h => q_proof_p (fr := 8) x hb n hn (cm_of h)⟩
theorem pr_fault (X : Nat × (Nat → Int32)) (w : Int32) : PairOk yX10_fault cX10_fault 2 yX11_fault cX11_fault 2 X [.int w] := by
  exact ⟨_, fun _ h => p_fault (fr := 12) w  h, fun _ h => q_fault (fr := 8) w  (cm_of h)⟩
theorem pr_drop (X : Nat × (Nat → Int32)) (x : Int32) : PairOk yX10_drop cX10_drop 3 yX11_drop cX11_drop 3 X [.int x] := by
  by_cases hb : x < 0 ∨ 4 ≤ x
  · exact ⟨_, fun _ h => p_drop_b (fr := 12) x hb h, fun _ h => q_drop_b (fr := 8) x hb (cm_of h)⟩
  · rcases nslot hb with rfl | rfl | rfl | rfl
    · exact ⟨_, fun _ h => p_drop_0 (fr := 12)   h, fun _ h => q_drop_0 (fr := 8)   (cm_of h)⟩
    · exact ⟨_, fun _ h => p_drop_1 (fr := 12)   h, fun _ h => q_drop_1 (fr := 8)   (cm_of h)⟩
    · exact ⟨_, fun _ h => p_drop_2 (fr := 12)   h, fun _ h => q_drop_2 (fr := 8)   (cm_of h)⟩
    · exact ⟨_, fun _ h => p_drop_3 (fr := 12)   h, fun _ h => q_drop_3 (fr := 8)   (cm_of h)⟩
theorem pr_count (X : Nat × (Nat → Int32)) (w : Int32) : PairOk yX10_count cX10_count 2 yX11_count cX11_count 4 X [.int w] := by
  rcases quad w with hs | rfl | rfl | rfl | rfl
  · exact ⟨_, fun _ h => p_count_o (fr := 12) w hs h, fun _ h => q_count_o (fr := 8) w hs (cm_of h)⟩
  · exact ⟨_, fun _ h => p_count_0 (fr := 12)   h, fun _ h => q_count_0 (fr := 8)   (cm_of h)⟩
  · exact ⟨_, fun _ h => p_count_1 (fr := 12)   h, fun _ h => q_count_1 (fr := 8)   (cm_of h)⟩
  · exact ⟨_, fun _ h => p_count_2 (fr := 12)   h, fun _ h => q_count_2 (fr := 8)   (cm_of h)⟩
  · exact ⟨_, fun _ h => p_count_3 (fr := 12)   h, fun _ h => q_count_3 (fr := 8)   (cm_of h)⟩
theorem pr_hypothesis (X : Nat × (Nat → Int32)) (k : Int32) (w : Int32) (i : Int32) : PairOk yX10_hypothesis cX10_hypothesis 4 yX11_hypothesis cX11_hypothesis 4 X [.int k, .int w, .int i] := by
  exact ⟨_, fun _ h => p_hypothesis (fr := 12) k w i  h, fun _ h => q_hypothesis (fr := 8) k w i  (cm_of h)⟩
theorem pr_goalByte (X : Nat × (Nat → Int32)) (n : Int32) : PairOk yX10_goalByte cX10_goalByte 2 yX11_goalByte cX11_goalByte 2 X [.int n] := by
  rcases tri n with hn | rfl | hn
  · exact ⟨_, fun _ h => p_goalByte_n (fr := 12) n hn h, fun _ h => q_goalByte_n (fr := 8) n hn (cm_of h)⟩
  · exact ⟨_, fun _ h => p_goalByte_0 (fr := 12)   h, fun _ h => q_goalByte_0 (fr := 8)   (cm_of h)⟩
  · exact ⟨_, fun _ h => p_goalByte_p (fr := 12) n hn h, fun _ h => q_goalByte_p (fr := 8) n hn (cm_of h)⟩
theorem pr_spell (X : Nat × (Nat → Int32)) (x : Int32) (w : Int32) (i : Int32) : PairOk yX10_spell cX10_spell 4 yX11_spell cX11_spell 4 X [.int x, .int w, .int i] := by
  by_cases hb : x < 0 ∨ 4 ≤ x
  · exact ⟨_, fun _ h => p_spell_b (fr := 12) x w i hb h, fun _ h => q_spell_b (fr := 8) x w i hb (cm_of h)⟩
  · rcases nslot hb with rfl | rfl | rfl | rfl
    · exact ⟨_, fun _ h => p_spell_0 (fr := 12) w i  h, fun _ h => q_spell_0 (fr := 8) w i  (cm_of h)⟩
    · exact ⟨_, fun _ h => p_spell_1 (fr := 12) w i  h, fun _ h => q_spell_1 (fr := 8) w i  (cm_of h)⟩
    · exact ⟨_, fun _ h => p_spell_2 (fr := 12) w i  h, fun _ h => q_spell_2 (fr := 8) w i  (cm_of h)⟩
    · exact ⟨_, fun _ h => p_spell_3 (fr := 12) w i  h, fun _ h => q_spell_3 (fr := 8) w i  (cm_of h)⟩
theorem pr_length (X : Nat × (Nat → Int32)) (x : Int32) (w : Int32) : PairOk yX10_length cX10_length 3 yX11_length cX11_length 3 X [.int x, .int w] := by
  by_cases hb : x < 0 ∨ 4 ≤ x
  · exact ⟨_, fun _ h => p_length_b (fr := 12) x w hb h, fun _ h => q_length_b (fr := 8) x w hb (cm_of h)⟩
  · rcases nslot hb with rfl | rfl | rfl | rfl
    · exact ⟨_, fun _ h => p_length_0 (fr := 12) w  h, fun _ h => q_length_0 (fr := 8) w  (cm_of h)⟩
    · exact ⟨_, fun _ h => p_length_1 (fr := 12) w  h, fun _ h => q_length_1 (fr := 8) w  (cm_of h)⟩
    · exact ⟨_, fun _ h => p_length_2 (fr := 12) w  h, fun _ h => q_length_2 (fr := 8) w  (cm_of h)⟩
    · exact ⟨_, fun _ h => p_length_3 (fr := 12) w  h, fun _ h => q_length_3 (fr := 8) w  (cm_of h)⟩
theorem pr_size (X : Nat × (Nat → Int32)) (x : Int32) (w : Int32) : PairOk yX10_size cX10_size 4 yX11_size cX11_size 5 X [.int x, .int w] := by
  by_cases hb : x < 0 ∨ 4 ≤ x
  · exact ⟨_, fun _ h => p_size_b (fr := 12) x w hb h, fun _ h => q_size_b (fr := 8) x w hb (cm_of h)⟩
  · rcases nslot hb with rfl | rfl | rfl | rfl
    · exact ⟨_, fun _ h => p_size_0 (fr := 12) w  h, fun _ h => q_size_0 (fr := 8) w  (cm_of h)⟩
    · exact ⟨_, fun _ h => p_size_1 (fr := 12) w  h, fun _ h => q_size_1 (fr := 8) w  (cm_of h)⟩
    · exact ⟨_, fun _ h => p_size_2 (fr := 12) w  h, fun _ h => q_size_2 (fr := 8) w  (cm_of h)⟩
    · exact ⟨_, fun _ h => p_size_3 (fr := 12) w  h, fun _ h => q_size_3 (fr := 8) w  (cm_of h)⟩
theorem pr_redexes (X : Nat × (Nat → Int32)) (x : Int32) (w : Int32) : PairOk yX10_redexes cX10_redexes 3 yX11_redexes cX11_redexes 3 X [.int x, .int w] := by
  by_cases hb : x < 0 ∨ 4 ≤ x
  · exact ⟨_, fun _ h => p_redexes_b (fr := 12) x w hb h, fun _ h => q_redexes_b (fr := 8) x w hb (cm_of h)⟩
  · rcases nslot hb with rfl | rfl | rfl | rfl
    · exact ⟨_, fun _ h => p_redexes_0 (fr := 12) w  h, fun _ h => q_redexes_0 (fr := 8) w  (cm_of h)⟩
    · exact ⟨_, fun _ h => p_redexes_1 (fr := 12) w  h, fun _ h => q_redexes_1 (fr := 8) w  (cm_of h)⟩
    · exact ⟨_, fun _ h => p_redexes_2 (fr := 12) w  h, fun _ h => q_redexes_2 (fr := 8) w  (cm_of h)⟩
    · exact ⟨_, fun _ h => p_redexes_3 (fr := 12) w  h, fun _ h => q_redexes_3 (fr := 8) w  (cm_of h)⟩
theorem pr_step (X : Nat × (Nat → Int32)) (x : Int32) : PairOk yX10_step cX10_step 3 yX11_step cX11_step 3 X [.int x] := by
  by_cases hb : x < 0 ∨ 4 ≤ x
  · exact ⟨_, fun _ h => p_step_b (fr := 12) x hb h, fun _ h => q_step_b (fr := 8) x hb (cm_of h)⟩
  · rcases nslot hb with rfl | rfl | rfl | rfl
    · exact ⟨_, fun _ h => p_step_0 (fr := 12)   h, fun _ h => q_step_0 (fr := 8)   (cm_of h)⟩
    · exact ⟨_, fun _ h => p_step_1 (fr := 12)   h, fun _ h => q_step_1 (fr := 8)   (cm_of h)⟩
    · exact ⟨_, fun _ h => p_step_2 (fr := 12)   h, fun _ h => q_step_2 (fr := 8)   (cm_of h)⟩
    · exact ⟨_, fun _ h => p_step_3 (fr := 12)   h, fun _ h => q_step_3 (fr := 8)   (cm_of h)⟩
theorem pr_normal (X : Nat × (Nat → Int32)) (x : Int32) : PairOk yX10_normal cX10_normal 3 yX11_normal cX11_normal 4 X [.int x] := by
  by_cases hb : x < 0 ∨ 4 ≤ x
  · exact ⟨_, fun _ h => p_normal_b (fr := 12) x hb h, fun _ h => q_normal_b (fr := 8) x hb (cm_of h)⟩
  · rcases nslot hb with rfl | rfl | rfl | rfl
    · exact ⟨_, fun _ h => p_normal_0 (fr := 12)   h, fun _ h => q_normal_0 (fr := 8)   (cm_of h)⟩
    · exact ⟨_, fun _ h => p_normal_1 (fr := 12)   h, fun _ h => q_normal_1 (fr := 8)   (cm_of h)⟩
    · exact ⟨_, fun _ h => p_normal_2 (fr := 12)   h, fun _ h => q_normal_2 (fr := 8)   (cm_of h)⟩
    · exact ⟨_, fun _ h => p_normal_3 (fr := 12)   h, fun _ h => q_normal_3 (fr := 8)   (cm_of h)⟩
theorem pr_trace (X : Nat × (Nat → Int32)) (k : Int32) : PairOk yX10_trace cX10_trace 2 yX11_trace cX11_trace 2 X [.int k] := by
  exact ⟨_, fun _ h => p_trace (fr := 12) k  h, fun _ h => q_trace (fr := 8) k  (cm_of h)⟩
theorem pr_cut (X : Nat × (Nat → Int32)) (a : Int32) (k : Int32) (b : Int32) (c : Int32) : PairOk yX10_cut cX10_cut 5 yX11_cut cX11_cut 11 X [.int a, .int k, .int b, .int c] := by
  exact ⟨_, fun _ h => p_cut (fr := 12) a k b c  h, fun _ h => q_cut (fr := 8) a k b c  (cm_of h)⟩
theorem pr_lines (X : Nat × (Nat → Int32)) (x : Int32) : PairOk yX10_lines cX10_lines 3 yX11_lines cX11_lines 2 X [.int x] := by
  by_cases hb : x < 0 ∨ 4 ≤ x
  · exact ⟨_, fun _ h => p_lines_b (fr := 12) x hb h, fun _ h => q_lines_b (fr := 8) x hb (cm_of h)⟩
  · rcases nslot hb with rfl | rfl | rfl | rfl
    · exact ⟨_, fun _ h => p_lines_0 (fr := 12)   h, fun _ h => q_lines_0 (fr := 8)   (cm_of h)⟩
    · exact ⟨_, fun _ h => p_lines_1 (fr := 12)   h, fun _ h => q_lines_1 (fr := 8)   (cm_of h)⟩
    · exact ⟨_, fun _ h => p_lines_2 (fr := 12)   h, fun _ h => q_lines_2 (fr := 8)   (cm_of h)⟩
    · exact ⟨_, fun _ h => p_lines_3 (fr := 12)   h, fun _ h => q_lines_3 (fr := 8)   (cm_of h)⟩
theorem pr_line (X : Nat × (Nat → Int32)) (x : Int32) (k : Int32) (w : Int32) : PairOk yX10_line cX10_line 5 yX11_line cX11_line 4 X [.int x, .int k, .int w] := by
  by_cases hb : x < 0 ∨ 4 ≤ x
  · exact ⟨_, fun _ h => p_line_b (fr := 12) x k w hb h, fun _ h => q_line_b (fr := 8) x k w hb (cm_of h)⟩
  · rcases nslot hb with rfl | rfl | rfl | rfl
    · exact ⟨_, fun _ h => p_line_0 (fr := 12) k w  h, fun _ h => q_line_0 (fr := 8) k w  (cm_of h)⟩
    · exact ⟨_, fun _ h => p_line_1 (fr := 12) k w  h, fun _ h => q_line_1 (fr := 8) k w  (cm_of h)⟩
    · exact ⟨_, fun _ h => p_line_2 (fr := 12) k w  h, fun _ h => q_line_2 (fr := 8) k w  (cm_of h)⟩
    · exact ⟨_, fun _ h => p_line_3 (fr := 12) k w  h, fun _ h => q_line_3 (fr := 8) k w  (cm_of h)⟩
theorem pr_lineByte (X : Nat × (Nat → Int32)) (x : Int32) (k : Int32) (i : Int32) : PairOk yX10_lineByte cX10_lineByte 5 yX11_lineByte cX11_lineByte 4 X [.int x, .int k, .int i] := by
  by_cases hb : x < 0 ∨ 4 ≤ x
  · exact ⟨_, fun _ h => p_lineByte_b (fr := 12) x k i hb h, fun _ h => q_lineByte_b (fr := 8) x k i hb (cm_of h)⟩
  · rcases nslot hb with rfl | rfl | rfl | rfl
    · exact ⟨_, fun _ h => p_lineByte_0 (fr := 12) k i  h, fun _ h => q_lineByte_0 (fr := 8) k i  (cm_of h)⟩
    · exact ⟨_, fun _ h => p_lineByte_1 (fr := 12) k i  h, fun _ h => q_lineByte_1 (fr := 8) k i  (cm_of h)⟩
    · exact ⟨_, fun _ h => p_lineByte_2 (fr := 12) k i  h, fun _ h => q_lineByte_2 (fr := 8) k i  (cm_of h)⟩
    · exact ⟨_, fun _ h => p_lineByte_3 (fr := 12) k i  h, fun _ h => q_lineByte_3 (fr := 8) k i  (cm_of h)⟩
theorem pr_equal (X : Nat × (Nat → Int32)) (x : Int32) (y : Int32) : PairOk yX10_equal cX10_equal 3 yX11_equal cX11_equal 4 X [.int x, .int y] := by
  by_cases hb : x < 0 ∨ 4 ≤ x
  · exact ⟨_, fun _ h => p_equal_b (fr := 12) x y hb h, fun _ h => q_equal_b (fr := 8) x y hb (cm_of h)⟩
  · by_cases hy : y < 0 ∨ 4 ≤ y
    · rcases nslot hb with rfl | rfl | rfl | rfl
      · exact ⟨_, fun _ h => p_equal_0b (fr := 12) y hy h, fun _ h => q_equal_0b (fr := 8) y hy (cm_of h)⟩
      · exact ⟨_, fun _ h => p_equal_1b (fr := 12) y hy h, fun _ h => q_equal_1b (fr := 8) y hy (cm_of h)⟩
      · exact ⟨_, fun _ h => p_equal_2b (fr := 12) y hy h, fun _ h => q_equal_2b (fr := 8) y hy (cm_of h)⟩
      · exact ⟨_, fun _ h => p_equal_3b (fr := 12) y hy h, fun _ h => q_equal_3b (fr := 8) y hy (cm_of h)⟩
    · rcases nslot hb with rfl | rfl | rfl | rfl
      · exact ⟨_, fun _ h => p_equal_0 (fr := 12) y hy h, fun _ h => q_equal_0 (fr := 8) y hy (cm_of h)⟩
      · exact ⟨_, fun _ h => p_equal_1 (fr := 12) y hy h, fun _ h => q_equal_1 (fr := 8) y hy (cm_of h)⟩
      · exact ⟨_, fun _ h => p_equal_2 (fr := 12) y hy h, fun _ h => q_equal_2 (fr := 8) y hy (cm_of h)⟩
      · exact ⟨_, fun _ h => p_equal_3 (fr := 12) y hy h, fun _ h => q_equal_3 (fr := 8) y hy (cm_of h)⟩
theorem pr_alike (X : Nat × (Nat → Int32)) (x : Int32) (y : Int32) : PairOk yX10_alike cX10_alike 3 yX11_alike cX11_alike 5 X [.int x, .int y] := by
  by_cases hb : x < 0 ∨ 4 ≤ x
  · exact ⟨_, fun _ h => p_alike_b (fr := 12) x y hb h, fun _ h => q_alike_b (fr := 8) x y hb (cm_of h)⟩
  · by_cases hy : y < 0 ∨ 4 ≤ y
    · rcases nslot hb with rfl | rfl | rfl | rfl
      · exact ⟨_, fun _ h => p_alike_0b (fr := 12) y hy h, fun _ h => q_alike_0b (fr := 8) y hy (cm_of h)⟩
      · exact ⟨_, fun _ h => p_alike_1b (fr := 12) y hy h, fun _ h => q_alike_1b (fr := 8) y hy (cm_of h)⟩
      · exact ⟨_, fun _ h => p_alike_2b (fr := 12) y hy h, fun _ h => q_alike_2b (fr := 8) y hy (cm_of h)⟩
      · exact ⟨_, fun _ h => p_alike_3b (fr := 12) y hy h, fun _ h => q_alike_3b (fr := 8) y hy (cm_of h)⟩
    · rcases nslot hb with rfl | rfl | rfl | rfl
      · exact ⟨_, fun _ h => p_alike_0 (fr := 12) y hy h, fun _ h => q_alike_0 (fr := 8) y hy (cm_of h)⟩
      · exact ⟨_, fun _ h => p_alike_1 (fr := 12) y hy h, fun _ h => q_alike_1 (fr := 8) y hy (cm_of h)⟩
      · exact ⟨_, fun _ h => p_alike_2 (fr := 12) y hy h, fun _ h => q_alike_2 (fr := 8) y hy (cm_of h)⟩
      · exact ⟨_, fun _ h => p_alike_3 (fr := 12) y hy h, fun _ h => q_alike_3 (fr := 8) y hy (cm_of h)⟩
theorem pr_side (X : Nat × (Nat → Int32)) (x : Int32) : PairOk yX10_side cX10_side 3 yX11_side cX11_side 3 X [.int x] := by
  by_cases hb : x < 0 ∨ 4 ≤ x
  · exact ⟨_, fun _ h => p_side_b (fr := 12) x hb h, fun _ h => q_side_b (fr := 8) x hb (cm_of h)⟩
  · rcases nslot hb with rfl | rfl | rfl | rfl
    · exact ⟨_, fun _ h => p_side_0 (fr := 12)   h, fun _ h => q_side_0 (fr := 8)   (cm_of h)⟩
    · exact ⟨_, fun _ h => p_side_1 (fr := 12)   h, fun _ h => q_side_1 (fr := 8)   (cm_of h)⟩
    · exact ⟨_, fun _ h => p_side_2 (fr := 12)   h, fun _ h => q_side_2 (fr := 8)   (cm_of h)⟩
    · exact ⟨_, fun _ h => p_side_3 (fr := 12)   h, fun _ h => q_side_3 (fr := 8)   (cm_of h)⟩
theorem pr_provable (X : Nat × (Nat → Int32))  : PairOk yX10_provable cX10_provable 1 yX11_provable cX11_provable 1 X [] := by
  exact ⟨_, fun _ h => p_provable (fr := 12)   h, fun _ h => q_provable (fr := 8)   (cm_of h)⟩
theorem pr_bySide (X : Nat × (Nat → Int32)) (w : Int32) : PairOk yX10_bySide cX10_bySide 2 yX11_bySide cX11_bySide 2 X [.int w] := by
  exact ⟨_, fun _ h => p_bySide (fr := 12) w  h, fun _ h => q_bySide (fr := 8) w  (cm_of h)⟩
theorem pr_classical (X : Nat × (Nat → Int32))  : PairOk yX10_classical cX10_classical 1 yX11_classical cX11_classical 1 X [] := by
  exact ⟨_, fun _ h => p_classical (fr := 12)   h, fun _ h => q_classical (fr := 8)   (cm_of h)⟩
theorem pr_against (X : Nat × (Nat → Int32))  : PairOk yX10_against cX10_against 1 yX11_against cX11_against 1 X [] := by
  exact ⟨_, fun _ h => p_against (fr := 12)   h, fun _ h => q_against (fr := 8)   (cm_of h)⟩
theorem lw_end {xs : Nat → Int32} {bc bs : Nat} {M : Mem} : AW (6, xs) (RL, cL_law, 4, (some .boolean), false, true, 21) bc bs 957 [(3, .int 0), (2, .ref 89), (1, .ref 0), (0, .ref 1000000)] [] M (fun v _ => v = some (.int 1)) := by
  refine a_iinc (v := 6) dL_law_957 rfl (by decide) (Nat.le_of_ble_eq_true rfl) (lv2 := [(3, .int 6), (2, .ref 89), (1, .ref 0), (0, .ref 1000000)]) rfl ?_
  refine a_goto 18 dL_law_960 (by decide) ?_
  refine a_iload_n dL_law_18 rfl rfl ?_
  refine a_aload_n dL_law_19 rfl rfl ?_
  refine a_lenX dL_law_20 ?_
  refine a_bipush (v := 6) dL_law_21 (by decide) ?_
  refine a_isub dL_law_23 ?_
  refine a_icmp_gt 963 dL_law_24 (by decide) (fun _ => ?_) (fun c => absurd (show Int32.ofNat 6 - 6 < 6 by decide) c)
  refine a_iconst (v := 1) dL_law_963 (by decide) ?_
  exact a_zret dL_law_964 rfl (by decide) rfl
set_option maxHeartbeats 4000000 in
theorem lw_c0 {xs : Nat → Int32} {bc bs : Nat} {M : Mem} (h : Cw 126 Lj134 fs42 gs31 M) : AW (6, xs) (RL, cL_law, 4, (some .boolean), false, true, 21) bc bs 156 [(3, .int 0), (2, .ref 89), (1, .ref 0), (0, .ref 1000000)] [] M (fun v _ => v = some (.int 1)) := by
  obtain ⟨r, hc, hr⟩ := pr_feed (6, xs) (xs 1) (xs 2) (xs 3) (xs 4) (xs 5)
  refine a_aload_n dL_law_156 rfl rfl ?_
  refine a_aload_n dL_law_157 rfl rfl ?_
  refine a_iload_n dL_law_158 rfl rfl ?_
  refine a_iconst (v := 1) dL_law_159 (by decide) ?_
  refine a_iadd dL_law_160 ?_
  refine a_st (st2 := [.int 1, .ref 1000000, .ref 0]) (congrArg (fun z => Value.int z :: [.ref 1000000, .ref 0]) (by decide)) ?_
  refine a_ldX dL_law_161 (show vp_in 1 6 from by unfold vp_in; decide +kernel) ?_
  refine a_st (st2 := [.int (xs 1), .ref 0]) rfl ?_
  refine a_aload_n dL_law_162 rfl rfl ?_
  refine a_iload_n dL_law_163 rfl rfl ?_
  refine a_iconst (v := 2) dL_law_164 (by decide) ?_
  refine a_iadd dL_law_165 ?_
  refine a_st (st2 := [.int 2, .ref 1000000, .int (xs 1), .ref 0]) (congrArg (fun z => Value.int z :: [.ref 1000000, .int (xs 1), .ref 0]) (by decide)) ?_
  refine a_ldX dL_law_166 (show vp_in 2 6 from by unfold vp_in; decide +kernel) ?_
  refine a_st (st2 := [.int (xs 2), .int (xs 1), .ref 0]) rfl ?_
  refine a_aload_n dL_law_167 rfl rfl ?_
  refine a_iload_n dL_law_168 rfl rfl ?_
  refine a_iconst (v := 3) dL_law_169 (by decide) ?_
  refine a_iadd dL_law_170 ?_
  refine a_st (st2 := [.int 3, .ref 1000000, .int (xs 2), .int (xs 1), .ref 0]) (congrArg (fun z => Value.int z :: [.ref 1000000, .int (xs 2), .int (xs 1), .ref 0]) (by decide)) ?_
  refine a_ldX dL_law_171 (show vp_in 3 6 from by unfold vp_in; decide +kernel) ?_
  refine a_st (st2 := [.int (xs 3), .int (xs 2), .int (xs 1), .ref 0]) rfl ?_
  refine a_aload_n dL_law_172 rfl rfl ?_
  refine a_iload_n dL_law_173 rfl rfl ?_
  refine a_iconst (v := 4) dL_law_174 (by decide) ?_
  refine a_iadd dL_law_175 ?_
  refine a_st (st2 := [.int 4, .ref 1000000, .int (xs 3), .int (xs 2), .int (xs 1), .ref 0]) (congrArg (fun z => Value.int z :: [.ref 1000000, .int (xs 3), .int (xs 2), .int (xs 1), .ref 0]) (by decide)) ?_
  refine a_ldX dL_law_176 (show vp_in 4 6 from by unfold vp_in; decide +kernel) ?_
  refine a_st (st2 := [.int (xs 4), .int (xs 3), .int (xs 2), .int (xs 1), .ref 0]) rfl ?_
  refine a_aload_n dL_law_177 rfl rfl ?_
  refine a_iload_n dL_law_178 rfl rfl ?_
  refine a_iconst (v := 5) dL_law_179 (by decide) ?_
  refine a_iadd dL_law_180 ?_
  refine a_st (st2 := [.int 5, .ref 1000000, .int (xs 4), .int (xs 3), .int (xs 2), .int (xs 1), .ref 0]) (congrArg (fun z => Value.int z :: [.ref 1000000, .int (xs 4), .int (xs 3), .int (xs 2), .int (xs 1), .ref 0]) (by decide)) ?_
  refine a_ldX dL_law_181 (show vp_in 5 6 from by unfold vp_in; decide +kernel) ?_
  refine a_st (st2 := [.int (xs 5), .int (xs 4), .int (xs 3), .int (xs 2), .int (xs 1), .ref 0]) rfl ?_
  refine a_callV (As := [.int (xs 1), .int (xs 2), .int (xs 3), .int (xs 4), .int (xs 5)]) (st := []) (a := 0) (ci := 10) (bc := bc) (bs := bs) (mc := 0) (ms := 0) false dL_law_182 mw_X10_feed rfl (Or.inl ⟨rfl, ml_L_13⟩) im_X10_feed se_X10_feed (by decide) (cw_l h (by decide)) (cw_s h (by decide) rfl) rfl (Nat.le_of_ble_eq_true rfl) (hc M h) (fun v M1 hq => ?_)
  obtain ⟨rfl, hF⟩ := hq
  show AW (6, xs) (RL, cL_law, 4, (some .boolean), false, true, 21) bc bs 185 _ [.int r] M1 _
  refine a_aload_n dL_law_185 rfl rfl ?_
  refine a_aload_n dL_law_186 rfl rfl ?_
  refine a_iload_n dL_law_187 rfl rfl ?_
  refine a_iconst (v := 1) dL_law_188 (by decide) ?_
  refine a_iadd dL_law_189 ?_
  refine a_st (st2 := [.int 1, .ref 1000000, .ref 89, .int r]) (congrArg (fun z => Value.int z :: [.ref 1000000, .ref 89, .int r]) (by decide)) ?_
  refine a_ldX dL_law_190 (show vp_in 1 6 from by unfold vp_in; decide +kernel) ?_
  refine a_st (st2 := [.int (xs 1), .ref 89, .int r]) rfl ?_
  refine a_aload_n dL_law_191 rfl rfl ?_
  refine a_iload_n dL_law_192 rfl rfl ?_
  refine a_iconst (v := 2) dL_law_193 (by decide) ?_
  refine a_iadd dL_law_194 ?_
  refine a_st (st2 := [.int 2, .ref 1000000, .int (xs 1), .ref 89, .int r]) (congrArg (fun z => Value.int z :: [.ref 1000000, .int (xs 1), .ref 89, .int r]) (by decide)) ?_
  refine a_ldX dL_law_195 (show vp_in 2 6 from by unfold vp_in; decide +kernel) ?_
  refine a_st (st2 := [.int (xs 2), .int (xs 1), .ref 89, .int r]) rfl ?_
  refine a_aload_n dL_law_196 rfl rfl ?_
  refine a_iload_n dL_law_197 rfl rfl ?_
  refine a_iconst (v := 3) dL_law_198 (by decide) ?_
  refine a_iadd dL_law_199 ?_
  refine a_st (st2 := [.int 3, .ref 1000000, .int (xs 2), .int (xs 1), .ref 89, .int r]) (congrArg (fun z => Value.int z :: [.ref 1000000, .int (xs 2), .int (xs 1), .ref 89, .int r]) (by decide)) ?_
  refine a_ldX dL_law_200 (show vp_in 3 6 from by unfold vp_in; decide +kernel) ?_
  refine a_st (st2 := [.int (xs 3), .int (xs 2), .int (xs 1), .ref 89, .int r]) rfl ?_
  refine a_aload_n dL_law_201 rfl rfl ?_
  refine a_iload_n dL_law_202 rfl rfl ?_
  refine a_iconst (v := 4) dL_law_203 (by decide) ?_
  refine a_iadd dL_law_204 ?_
  refine a_st (st2 := [.int 4, .ref 1000000, .int (xs 3), .int (xs 2), .int (xs 1), .ref 89, .int r]) (congrArg (fun z => Value.int z :: [.ref 1000000, .int (xs 3), .int (xs 2), .int (xs 1), .ref 89, .int r]) (by decide)) ?_
  refine a_ldX dL_law_205 (show vp_in 4 6 from by unfold vp_in; decide +kernel) ?_
  refine a_st (st2 := [.int (xs 4), .int (xs 3), .int (xs 2), .int (xs 1), .ref 89, .int r]) rfl ?_
  refine a_aload_n dL_law_206 rfl rfl ?_
  refine a_iload_n dL_law_207 rfl rfl ?_
  refine a_iconst (v := 5) dL_law_208 (by decide) ?_
  refine a_iadd dL_law_209 ?_
  refine a_st (st2 := [.int 5, .ref 1000000, .int (xs 4), .int (xs 3), .int (xs 2), .int (xs 1), .ref 89, .int r]) (congrArg (fun z => Value.int z :: [.ref 1000000, .int (xs 4), .int (xs 3), .int (xs 2), .int (xs 1), .ref 89, .int r]) (by decide)) ?_
  refine a_ldX dL_law_210 (show vp_in 5 6 from by unfold vp_in; decide +kernel) ?_
  refine a_st (st2 := [.int (xs 5), .int (xs 4), .int (xs 3), .int (xs 2), .int (xs 1), .ref 89, .int r]) rfl ?_
  refine a_callV (As := [.int (xs 1), .int (xs 2), .int (xs 3), .int (xs 4), .int (xs 5)]) (st := [.int r]) (a := 89) (ci := 11) (bc := bc) (bs := bs) (mc := 0) (ms := 0) false dL_law_211 mw_X11_feed rfl (Or.inl ⟨rfl, ml_L_17⟩) im_X11_feed se_X11_feed (by decide) (cm_l (cm_of hF) (by decide)) (cm_s (cm_of hF) (by decide) rfl) rfl (Nat.le_of_ble_eq_true rfl) (hr M1 hF) (fun v M2 hq => ?_)
  obtain ⟨rfl, -⟩ := hq
  exact a_icmp_eq 957 dL_law_214 (by decide) (fun _ => lw_end) (fun c => absurd rfl c)
set_option maxHeartbeats 4000000 in
theorem lw_c1 {xs : Nat → Int32} {bc bs : Nat} {M : Mem} (h : Cw 126 Lj134 fs42 gs31 M) : AW (6, xs) (RL, cL_law, 4, (some .boolean), false, true, 21) bc bs 219 [(3, .int 0), (2, .ref 89), (1, .ref 0), (0, .ref 1000000)] [] M (fun v _ => v = some (.int 1)) := by
  obtain ⟨r, hc, hr⟩ := pr_hypotheses (6, xs) (xs 1)
  refine a_aload_n dL_law_219 rfl rfl ?_
  refine a_aload_n dL_law_220 rfl rfl ?_
  refine a_iload_n dL_law_221 rfl rfl ?_
  refine a_iconst (v := 1) dL_law_222 (by decide) ?_
  refine a_iadd dL_law_223 ?_
  refine a_st (st2 := [.int 1, .ref 1000000, .ref 0]) (congrArg (fun z => Value.int z :: [.ref 1000000, .ref 0]) (by decide)) ?_
  refine a_ldX dL_law_224 (show vp_in 1 6 from by unfold vp_in; decide +kernel) ?_
  refine a_st (st2 := [.int (xs 1), .ref 0]) rfl ?_
  refine a_callV (As := [.int (xs 1)]) (st := []) (a := 0) (ci := 10) (bc := bc) (bs := bs) (mc := 0) (ms := 0) false dL_law_225 mw_X10_hypotheses rfl (Or.inl ⟨rfl, ml_L_18⟩) im_X10_hypotheses se_X10_hypotheses (by decide) (cw_l h (by decide)) (cw_s h (by decide) rfl) rfl (Nat.le_of_ble_eq_true rfl) (hc M h) (fun v M1 hq => ?_)
  obtain ⟨rfl, hF⟩ := hq
  show AW (6, xs) (RL, cL_law, 4, (some .boolean), false, true, 21) bc bs 228 _ [.int r] M1 _
  refine a_aload_n dL_law_228 rfl rfl ?_
  refine a_aload_n dL_law_229 rfl rfl ?_
  refine a_iload_n dL_law_230 rfl rfl ?_
  refine a_iconst (v := 1) dL_law_231 (by decide) ?_
  refine a_iadd dL_law_232 ?_
  refine a_st (st2 := [.int 1, .ref 1000000, .ref 89, .int r]) (congrArg (fun z => Value.int z :: [.ref 1000000, .ref 89, .int r]) (by decide)) ?_
  refine a_ldX dL_law_233 (show vp_in 1 6 from by unfold vp_in; decide +kernel) ?_
  refine a_st (st2 := [.int (xs 1), .ref 89, .int r]) rfl ?_
  refine a_callV (As := [.int (xs 1)]) (st := [.int r]) (a := 89) (ci := 11) (bc := bc) (bs := bs) (mc := 0) (ms := 0) false dL_law_234 mw_X11_hypotheses rfl (Or.inl ⟨rfl, ml_L_22⟩) im_X11_hypotheses se_X11_hypotheses (by decide) (cm_l (cm_of hF) (by decide)) (cm_s (cm_of hF) (by decide) rfl) rfl (Nat.le_of_ble_eq_true rfl) (hr M1 hF) (fun v M2 hq => ?_)
  obtain ⟨rfl, -⟩ := hq
  exact a_icmp_eq 957 dL_law_237 (by decide) (fun _ => lw_end) (fun c => absurd rfl c)
set_option maxHeartbeats 4000000 in
theorem lw_c2 {xs : Nat → Int32} {bc bs : Nat} {M : Mem} (h : Cw 126 Lj134 fs42 gs31 M) : AW (6, xs) (RL, cL_law, 4, (some .boolean), false, true, 21) bc bs 242 [(3, .int 0), (2, .ref 89), (1, .ref 0), (0, .ref 1000000)] [] M (fun v _ => v = some (.int 1)) := by
  obtain ⟨r, hc, hr⟩ := pr_goal (6, xs) (xs 1)
  refine a_aload_n dL_law_242 rfl rfl ?_
  refine a_aload_n dL_law_243 rfl rfl ?_
  refine a_iload_n dL_law_244 rfl rfl ?_
  refine a_iconst (v := 1) dL_law_245 (by decide) ?_
  refine a_iadd dL_law_246 ?_
  refine a_st (st2 := [.int 1, .ref 1000000, .ref 0]) (congrArg (fun z => Value.int z :: [.ref 1000000, .ref 0]) (by decide)) ?_
  refine a_ldX dL_law_247 (show vp_in 1 6 from by unfold vp_in; decide +kernel) ?_
  refine a_st (st2 := [.int (xs 1), .ref 0]) rfl ?_
  refine a_callV (As := [.int (xs 1)]) (st := []) (a := 0) (ci := 10) (bc := bc) (bs := bs) (mc := 0) (ms := 0) false dL_law_248 mw_X10_goal rfl (Or.inl ⟨rfl, ml_L_23⟩) im_X10_goal se_X10_goal (by decide) (cw_l h (by decide)) (cw_s h (by decide) rfl) rfl (Nat.le_of_ble_eq_true rfl) (hc M h) (fun v M1 hq => ?_)
  obtain ⟨rfl, hF⟩ := hq
  show AW (6, xs) (RL, cL_law, 4, (some .boolean), false, true, 21) bc bs 251 _ [.int r] M1 _
  refine a_aload_n dL_law_251 rfl rfl ?_
  refine a_aload_n dL_law_252 rfl rfl ?_
  refine a_iload_n dL_law_253 rfl rfl ?_
  refine a_iconst (v := 1) dL_law_254 (by decide) ?_
  refine a_iadd dL_law_255 ?_
  refine a_st (st2 := [.int 1, .ref 1000000, .ref 89, .int r]) (congrArg (fun z => Value.int z :: [.ref 1000000, .ref 89, .int r]) (by decide)) ?_
  refine a_ldX dL_law_256 (show vp_in 1 6 from by unfold vp_in; decide +kernel) ?_
  refine a_st (st2 := [.int (xs 1), .ref 89, .int r]) rfl ?_
  refine a_callV (As := [.int (xs 1)]) (st := [.int r]) (a := 89) (ci := 11) (bc := bc) (bs := bs) (mc := 0) (ms := 0) false dL_law_257 mw_X11_goal rfl (Or.inl ⟨rfl, ml_L_26⟩) im_X11_goal se_X11_goal (by decide) (cm_l (cm_of hF) (by decide)) (cm_s (cm_of hF) (by decide) rfl) rfl (Nat.le_of_ble_eq_true rfl) (hr M1 hF) (fun v M2 hq => ?_)
  obtain ⟨rfl, -⟩ := hq
  exact a_icmp_eq 957 dL_law_260 (by decide) (fun _ => lw_end) (fun c => absurd rfl c)
set_option maxHeartbeats 4000000 in
theorem lw_c3 {xs : Nat → Int32} {bc bs : Nat} {M : Mem} (h : Cw 126 Lj134 fs42 gs31 M) : AW (6, xs) (RL, cL_law, 4, (some .boolean), false, true, 21) bc bs 265 [(3, .int 0), (2, .ref 89), (1, .ref 0), (0, .ref 1000000)] [] M (fun v _ => v = some (.int 1)) := by
  obtain ⟨r, hc, hr⟩ := pr_proof (6, xs) (xs 1) (xs 2)
  refine a_aload_n dL_law_265 rfl rfl ?_
  refine a_aload_n dL_law_266 rfl rfl ?_
  refine a_iload_n dL_law_267 rfl rfl ?_
  refine a_iconst (v := 1) dL_law_268 (by decide) ?_
  refine a_iadd dL_law_269 ?_
  refine a_st (st2 := [.int 1, .ref 1000000, .ref 0]) (congrArg (fun z => Value.int z :: [.ref 1000000, .ref 0]) (by decide)) ?_
  refine a_ldX dL_law_270 (show vp_in 1 6 from by unfold vp_in; decide +kernel) ?_
  refine a_st (st2 := [.int (xs 1), .ref 0]) rfl ?_
  refine a_aload_n dL_law_271 rfl rfl ?_
  refine a_iload_n dL_law_272 rfl rfl ?_
  refine a_iconst (v := 2) dL_law_273 (by decide) ?_
  refine a_iadd dL_law_274 ?_
  refine a_st (st2 := [.int 2, .ref 1000000, .int (xs 1), .ref 0]) (congrArg (fun z => Value.int z :: [.ref 1000000, .int (xs 1), .ref 0]) (by decide)) ?_
  refine a_ldX dL_law_275 (show vp_in 2 6 from by unfold vp_in; decide +kernel) ?_
  refine a_st (st2 := [.int (xs 2), .int (xs 1), .ref 0]) rfl ?_
  refine a_callV (As := [.int (xs 1), .int (xs 2)]) (st := []) (a := 0) (ci := 10) (bc := bc) (bs := bs) (mc := 0) (ms := 0) false dL_law_276 mw_X10_proof rfl (Or.inl ⟨rfl, ml_L_27⟩) im_X10_proof se_X10_proof (by decide) (cw_l h (by decide)) (cw_s h (by decide) rfl) rfl (Nat.le_of_ble_eq_true rfl) (hc M h) (fun v M1 hq => ?_)
  obtain ⟨rfl, hF⟩ := hq
  show AW (6, xs) (RL, cL_law, 4, (some .boolean), false, true, 21) bc bs 279 _ [.int r] M1 _
  refine a_aload_n dL_law_279 rfl rfl ?_
  refine a_aload_n dL_law_280 rfl rfl ?_
  refine a_iload_n dL_law_281 rfl rfl ?_
  refine a_iconst (v := 1) dL_law_282 (by decide) ?_
  refine a_iadd dL_law_283 ?_
  refine a_st (st2 := [.int 1, .ref 1000000, .ref 89, .int r]) (congrArg (fun z => Value.int z :: [.ref 1000000, .ref 89, .int r]) (by decide)) ?_
  refine a_ldX dL_law_284 (show vp_in 1 6 from by unfold vp_in; decide +kernel) ?_
  refine a_st (st2 := [.int (xs 1), .ref 89, .int r]) rfl ?_
  refine a_aload_n dL_law_285 rfl rfl ?_
  refine a_iload_n dL_law_286 rfl rfl ?_
  refine a_iconst (v := 2) dL_law_287 (by decide) ?_
  refine a_iadd dL_law_288 ?_
  refine a_st (st2 := [.int 2, .ref 1000000, .int (xs 1), .ref 89, .int r]) (congrArg (fun z => Value.int z :: [.ref 1000000, .int (xs 1), .ref 89, .int r]) (by decide)) ?_
  refine a_ldX dL_law_289 (show vp_in 2 6 from by unfold vp_in; decide +kernel) ?_
  refine a_st (st2 := [.int (xs 2), .int (xs 1), .ref 89, .int r]) rfl ?_
  refine a_callV (As := [.int (xs 1), .int (xs 2)]) (st := [.int r]) (a := 89) (ci := 11) (bc := bc) (bs := bs) (mc := 0) (ms := 0) false dL_law_290 mw_X11_proof rfl (Or.inl ⟨rfl, ml_L_31⟩) im_X11_proof se_X11_proof (by decide) (cm_l (cm_of hF) (by decide)) (cm_s (cm_of hF) (by decide) rfl) rfl (Nat.le_of_ble_eq_true rfl) (hr M1 hF) (fun v M2 hq => ?_)
  obtain ⟨rfl, -⟩ := hq
  exact a_icmp_eq 957 dL_law_293 (by decide) (fun _ => lw_end) (fun c => absurd rfl c)
set_option maxHeartbeats 4000000 in
theorem lw_c4 {xs : Nat → Int32} {bc bs : Nat} {M : Mem} (h : Cw 126 Lj134 fs42 gs31 M) : AW (6, xs) (RL, cL_law, 4, (some .boolean), false, true, 21) bc bs 298 [(3, .int 0), (2, .ref 89), (1, .ref 0), (0, .ref 1000000)] [] M (fun v _ => v = some (.int 1)) := by
  obtain ⟨r, hc, hr⟩ := pr_fault (6, xs) (xs 1)
  refine a_aload_n dL_law_298 rfl rfl ?_
  refine a_aload_n dL_law_299 rfl rfl ?_
  refine a_iload_n dL_law_300 rfl rfl ?_
  refine a_iconst (v := 1) dL_law_301 (by decide) ?_
  refine a_iadd dL_law_302 ?_
  refine a_st (st2 := [.int 1, .ref 1000000, .ref 0]) (congrArg (fun z => Value.int z :: [.ref 1000000, .ref 0]) (by decide)) ?_
  refine a_ldX dL_law_303 (show vp_in 1 6 from by unfold vp_in; decide +kernel) ?_
  refine a_st (st2 := [.int (xs 1), .ref 0]) rfl ?_
  refine a_callV (As := [.int (xs 1)]) (st := []) (a := 0) (ci := 10) (bc := bc) (bs := bs) (mc := 0) (ms := 0) false dL_law_304 mw_X10_fault rfl (Or.inl ⟨rfl, ml_L_32⟩) im_X10_fault se_X10_fault (by decide) (cw_l h (by decide)) (cw_s h (by decide) rfl) rfl (Nat.le_of_ble_eq_true rfl) (hc M h) (fun v M1 hq => ?_)
  obtain ⟨rfl, hF⟩ := hq
  show AW (6, xs) (RL, cL_law, 4, (some .boolean), false, true, 21) bc bs 307 _ [.int r] M1 _
  refine a_aload_n dL_law_307 rfl rfl ?_
  refine a_aload_n dL_law_308 rfl rfl ?_
  refine a_iload_n dL_law_309 rfl rfl ?_
  refine a_iconst (v := 1) dL_law_310 (by decide) ?_
  refine a_iadd dL_law_311 ?_
  refine a_st (st2 := [.int 1, .ref 1000000, .ref 89, .int r]) (congrArg (fun z => Value.int z :: [.ref 1000000, .ref 89, .int r]) (by decide)) ?_
  refine a_ldX dL_law_312 (show vp_in 1 6 from by unfold vp_in; decide +kernel) ?_
  refine a_st (st2 := [.int (xs 1), .ref 89, .int r]) rfl ?_
  refine a_callV (As := [.int (xs 1)]) (st := [.int r]) (a := 89) (ci := 11) (bc := bc) (bs := bs) (mc := 0) (ms := 0) false dL_law_313 mw_X11_fault rfl (Or.inl ⟨rfl, ml_L_35⟩) im_X11_fault se_X11_fault (by decide) (cm_l (cm_of hF) (by decide)) (cm_s (cm_of hF) (by decide) rfl) rfl (Nat.le_of_ble_eq_true rfl) (hr M1 hF) (fun v M2 hq => ?_)
  obtain ⟨rfl, -⟩ := hq
  exact a_icmp_eq 957 dL_law_316 (by decide) (fun _ => lw_end) (fun c => absurd rfl c)
set_option maxHeartbeats 4000000 in
theorem lw_c5 {xs : Nat → Int32} {bc bs : Nat} {M : Mem} (h : Cw 126 Lj134 fs42 gs31 M) : AW (6, xs) (RL, cL_law, 4, (some .boolean), false, true, 21) bc bs 321 [(3, .int 0), (2, .ref 89), (1, .ref 0), (0, .ref 1000000)] [] M (fun v _ => v = some (.int 1)) := by
  obtain ⟨r, hc, hr⟩ := pr_drop (6, xs) (xs 1)
  refine a_aload_n dL_law_321 rfl rfl ?_
  refine a_aload_n dL_law_322 rfl rfl ?_
  refine a_iload_n dL_law_323 rfl rfl ?_
  refine a_iconst (v := 1) dL_law_324 (by decide) ?_
  refine a_iadd dL_law_325 ?_
  refine a_st (st2 := [.int 1, .ref 1000000, .ref 0]) (congrArg (fun z => Value.int z :: [.ref 1000000, .ref 0]) (by decide)) ?_
  refine a_ldX dL_law_326 (show vp_in 1 6 from by unfold vp_in; decide +kernel) ?_
  refine a_st (st2 := [.int (xs 1), .ref 0]) rfl ?_
  refine a_callV (As := [.int (xs 1)]) (st := []) (a := 0) (ci := 10) (bc := bc) (bs := bs) (mc := 0) (ms := 0) false dL_law_327 mw_X10_drop rfl (Or.inl ⟨rfl, ml_L_36⟩) im_X10_drop se_X10_drop (by decide) (cw_l h (by decide)) (cw_s h (by decide) rfl) rfl (Nat.le_of_ble_eq_true rfl) (hc M h) (fun v M1 hq => ?_)
  obtain ⟨rfl, hF⟩ := hq
  show AW (6, xs) (RL, cL_law, 4, (some .boolean), false, true, 21) bc bs 330 _ [.int r] M1 _
  refine a_aload_n dL_law_330 rfl rfl ?_
  refine a_aload_n dL_law_331 rfl rfl ?_
  refine a_iload_n dL_law_332 rfl rfl ?_
  refine a_iconst (v := 1) dL_law_333 (by decide) ?_
  refine a_iadd dL_law_334 ?_
  refine a_st (st2 := [.int 1, .ref 1000000, .ref 89, .int r]) (congrArg (fun z => Value.int z :: [.ref 1000000, .ref 89, .int r]) (by decide)) ?_
  refine a_ldX dL_law_335 (show vp_in 1 6 from by unfold vp_in; decide +kernel) ?_
  refine a_st (st2 := [.int (xs 1), .ref 89, .int r]) rfl ?_
  refine a_callV (As := [.int (xs 1)]) (st := [.int r]) (a := 89) (ci := 11) (bc := bc) (bs := bs) (mc := 0) (ms := 0) false dL_law_336 mw_X11_drop rfl (Or.inl ⟨rfl, ml_L_39⟩) im_X11_drop se_X11_drop (by decide) (cm_l (cm_of hF) (by decide)) (cm_s (cm_of hF) (by decide) rfl) rfl (Nat.le_of_ble_eq_true rfl) (hr M1 hF) (fun v M2 hq => ?_)
  obtain ⟨rfl, -⟩ := hq
  exact a_icmp_eq 957 dL_law_339 (by decide) (fun _ => lw_end) (fun c => absurd rfl c)
set_option maxHeartbeats 4000000 in
theorem lw_c6 {xs : Nat → Int32} {bc bs : Nat} {M : Mem} (h : Cw 126 Lj134 fs42 gs31 M) : AW (6, xs) (RL, cL_law, 4, (some .boolean), false, true, 21) bc bs 344 [(3, .int 0), (2, .ref 89), (1, .ref 0), (0, .ref 1000000)] [] M (fun v _ => v = some (.int 1)) := by
  obtain ⟨r, hc, hr⟩ := pr_count (6, xs) (xs 1)
  refine a_aload_n dL_law_344 rfl rfl ?_
  refine a_aload_n dL_law_345 rfl rfl ?_
  refine a_iload_n dL_law_346 rfl rfl ?_
  refine a_iconst (v := 1) dL_law_347 (by decide) ?_
  refine a_iadd dL_law_348 ?_
  refine a_st (st2 := [.int 1, .ref 1000000, .ref 0]) (congrArg (fun z => Value.int z :: [.ref 1000000, .ref 0]) (by decide)) ?_
  refine a_ldX dL_law_349 (show vp_in 1 6 from by unfold vp_in; decide +kernel) ?_
  refine a_st (st2 := [.int (xs 1), .ref 0]) rfl ?_
  refine a_callV (As := [.int (xs 1)]) (st := []) (a := 0) (ci := 10) (bc := bc) (bs := bs) (mc := 0) (ms := 0) false dL_law_350 mw_X10_count rfl (Or.inl ⟨rfl, ml_L_40⟩) im_X10_count se_X10_count (by decide) (cw_l h (by decide)) (cw_s h (by decide) rfl) rfl (Nat.le_of_ble_eq_true rfl) (hc M h) (fun v M1 hq => ?_)
  obtain ⟨rfl, hF⟩ := hq
  show AW (6, xs) (RL, cL_law, 4, (some .boolean), false, true, 21) bc bs 353 _ [.int r] M1 _
  refine a_aload_n dL_law_353 rfl rfl ?_
  refine a_aload_n dL_law_354 rfl rfl ?_
  refine a_iload_n dL_law_355 rfl rfl ?_
  refine a_iconst (v := 1) dL_law_356 (by decide) ?_
  refine a_iadd dL_law_357 ?_
  refine a_st (st2 := [.int 1, .ref 1000000, .ref 89, .int r]) (congrArg (fun z => Value.int z :: [.ref 1000000, .ref 89, .int r]) (by decide)) ?_
  refine a_ldX dL_law_358 (show vp_in 1 6 from by unfold vp_in; decide +kernel) ?_
  refine a_st (st2 := [.int (xs 1), .ref 89, .int r]) rfl ?_
  refine a_callV (As := [.int (xs 1)]) (st := [.int r]) (a := 89) (ci := 11) (bc := bc) (bs := bs) (mc := 0) (ms := 0) false dL_law_359 mw_X11_count rfl (Or.inl ⟨rfl, ml_L_43⟩) im_X11_count se_X11_count (by decide) (cm_l (cm_of hF) (by decide)) (cm_s (cm_of hF) (by decide) rfl) rfl (Nat.le_of_ble_eq_true rfl) (hr M1 hF) (fun v M2 hq => ?_)
  obtain ⟨rfl, -⟩ := hq
  exact a_icmp_eq 957 dL_law_362 (by decide) (fun _ => lw_end) (fun c => absurd rfl c)
set_option maxHeartbeats 4000000 in
theorem lw_c7 {xs : Nat → Int32} {bc bs : Nat} {M : Mem} (h : Cw 126 Lj134 fs42 gs31 M) : AW (6, xs) (RL, cL_law, 4, (some .boolean), false, true, 21) bc bs 367 [(3, .int 0), (2, .ref 89), (1, .ref 0), (0, .ref 1000000)] [] M (fun v _ => v = some (.int 1)) := by
  obtain ⟨r, hc, hr⟩ := pr_hypothesis (6, xs) (xs 1) (xs 2) (xs 3)
  refine a_aload_n dL_law_367 rfl rfl ?_
  refine a_aload_n dL_law_368 rfl rfl ?_
  refine a_iload_n dL_law_369 rfl rfl ?_
  refine a_iconst (v := 1) dL_law_370 (by decide) ?_
  refine a_iadd dL_law_371 ?_
  refine a_st (st2 := [.int 1, .ref 1000000, .ref 0]) (congrArg (fun z => Value.int z :: [.ref 1000000, .ref 0]) (by decide)) ?_
  refine a_ldX dL_law_372 (show vp_in 1 6 from by unfold vp_in; decide +kernel) ?_
  refine a_st (st2 := [.int (xs 1), .ref 0]) rfl ?_
  refine a_aload_n dL_law_373 rfl rfl ?_
  refine a_iload_n dL_law_374 rfl rfl ?_
  refine a_iconst (v := 2) dL_law_375 (by decide) ?_
  refine a_iadd dL_law_376 ?_
  refine a_st (st2 := [.int 2, .ref 1000000, .int (xs 1), .ref 0]) (congrArg (fun z => Value.int z :: [.ref 1000000, .int (xs 1), .ref 0]) (by decide)) ?_
  refine a_ldX dL_law_377 (show vp_in 2 6 from by unfold vp_in; decide +kernel) ?_
  refine a_st (st2 := [.int (xs 2), .int (xs 1), .ref 0]) rfl ?_
  refine a_aload_n dL_law_378 rfl rfl ?_
  refine a_iload_n dL_law_379 rfl rfl ?_
  refine a_iconst (v := 3) dL_law_380 (by decide) ?_
  refine a_iadd dL_law_381 ?_
  refine a_st (st2 := [.int 3, .ref 1000000, .int (xs 2), .int (xs 1), .ref 0]) (congrArg (fun z => Value.int z :: [.ref 1000000, .int (xs 2), .int (xs 1), .ref 0]) (by decide)) ?_
  refine a_ldX dL_law_382 (show vp_in 3 6 from by unfold vp_in; decide +kernel) ?_
  refine a_st (st2 := [.int (xs 3), .int (xs 2), .int (xs 1), .ref 0]) rfl ?_
  refine a_callV (As := [.int (xs 1), .int (xs 2), .int (xs 3)]) (st := []) (a := 0) (ci := 10) (bc := bc) (bs := bs) (mc := 0) (ms := 0) false dL_law_383 mw_X10_hypothesis rfl (Or.inl ⟨rfl, ml_L_44⟩) im_X10_hypothesis se_X10_hypothesis (by decide) (cw_l h (by decide)) (cw_s h (by decide) rfl) rfl (Nat.le_of_ble_eq_true rfl) (hc M h) (fun v M1 hq => ?_)
  obtain ⟨rfl, hF⟩ := hq
  show AW (6, xs) (RL, cL_law, 4, (some .boolean), false, true, 21) bc bs 386 _ [.int r] M1 _
  refine a_aload_n dL_law_386 rfl rfl ?_
  refine a_aload_n dL_law_387 rfl rfl ?_
  refine a_iload_n dL_law_388 rfl rfl ?_
  refine a_iconst (v := 1) dL_law_389 (by decide) ?_
  refine a_iadd dL_law_390 ?_
  refine a_st (st2 := [.int 1, .ref 1000000, .ref 89, .int r]) (congrArg (fun z => Value.int z :: [.ref 1000000, .ref 89, .int r]) (by decide)) ?_
  refine a_ldX dL_law_391 (show vp_in 1 6 from by unfold vp_in; decide +kernel) ?_
  refine a_st (st2 := [.int (xs 1), .ref 89, .int r]) rfl ?_
  refine a_aload_n dL_law_392 rfl rfl ?_
  refine a_iload_n dL_law_393 rfl rfl ?_
  refine a_iconst (v := 2) dL_law_394 (by decide) ?_
  refine a_iadd dL_law_395 ?_
  refine a_st (st2 := [.int 2, .ref 1000000, .int (xs 1), .ref 89, .int r]) (congrArg (fun z => Value.int z :: [.ref 1000000, .int (xs 1), .ref 89, .int r]) (by decide)) ?_
  refine a_ldX dL_law_396 (show vp_in 2 6 from by unfold vp_in; decide +kernel) ?_
  refine a_st (st2 := [.int (xs 2), .int (xs 1), .ref 89, .int r]) rfl ?_
  refine a_aload_n dL_law_397 rfl rfl ?_
  refine a_iload_n dL_law_398 rfl rfl ?_
  refine a_iconst (v := 3) dL_law_399 (by decide) ?_
  refine a_iadd dL_law_400 ?_
  refine a_st (st2 := [.int 3, .ref 1000000, .int (xs 2), .int (xs 1), .ref 89, .int r]) (congrArg (fun z => Value.int z :: [.ref 1000000, .int (xs 2), .int (xs 1), .ref 89, .int r]) (by decide)) ?_
  refine a_ldX dL_law_401 (show vp_in 3 6 from by unfold vp_in; decide +kernel) ?_
  refine a_st (st2 := [.int (xs 3), .int (xs 2), .int (xs 1), .ref 89, .int r]) rfl ?_
  refine a_callV (As := [.int (xs 1), .int (xs 2), .int (xs 3)]) (st := [.int r]) (a := 89) (ci := 11) (bc := bc) (bs := bs) (mc := 0) (ms := 0) false dL_law_402 mw_X11_hypothesis rfl (Or.inl ⟨rfl, ml_L_48⟩) im_X11_hypothesis se_X11_hypothesis (by decide) (cm_l (cm_of hF) (by decide)) (cm_s (cm_of hF) (by decide) rfl) rfl (Nat.le_of_ble_eq_true rfl) (hr M1 hF) (fun v M2 hq => ?_)
  obtain ⟨rfl, -⟩ := hq
  exact a_icmp_eq 957 dL_law_405 (by decide) (fun _ => lw_end) (fun c => absurd rfl c)
set_option maxHeartbeats 4000000 in
theorem lw_c8 {xs : Nat → Int32} {bc bs : Nat} {M : Mem} (h : Cw 126 Lj134 fs42 gs31 M) : AW (6, xs) (RL, cL_law, 4, (some .boolean), false, true, 21) bc bs 410 [(3, .int 0), (2, .ref 89), (1, .ref 0), (0, .ref 1000000)] [] M (fun v _ => v = some (.int 1)) := by
  obtain ⟨r, hc, hr⟩ := pr_goalByte (6, xs) (xs 1)
  refine a_aload_n dL_law_410 rfl rfl ?_
  refine a_aload_n dL_law_411 rfl rfl ?_
  refine a_iload_n dL_law_412 rfl rfl ?_
  refine a_iconst (v := 1) dL_law_413 (by decide) ?_
  refine a_iadd dL_law_414 ?_
  refine a_st (st2 := [.int 1, .ref 1000000, .ref 0]) (congrArg (fun z => Value.int z :: [.ref 1000000, .ref 0]) (by decide)) ?_
  refine a_ldX dL_law_415 (show vp_in 1 6 from by unfold vp_in; decide +kernel) ?_
  refine a_st (st2 := [.int (xs 1), .ref 0]) rfl ?_
  refine a_callV (As := [.int (xs 1)]) (st := []) (a := 0) (ci := 10) (bc := bc) (bs := bs) (mc := 0) (ms := 0) false dL_law_416 mw_X10_goalByte rfl (Or.inl ⟨rfl, ml_L_49⟩) im_X10_goalByte se_X10_goalByte (by decide) (cw_l h (by decide)) (cw_s h (by decide) rfl) rfl (Nat.le_of_ble_eq_true rfl) (hc M h) (fun v M1 hq => ?_)
  obtain ⟨rfl, hF⟩ := hq
  show AW (6, xs) (RL, cL_law, 4, (some .boolean), false, true, 21) bc bs 419 _ [.int r] M1 _
  refine a_aload_n dL_law_419 rfl rfl ?_
  refine a_aload_n dL_law_420 rfl rfl ?_
  refine a_iload_n dL_law_421 rfl rfl ?_
  refine a_iconst (v := 1) dL_law_422 (by decide) ?_
  refine a_iadd dL_law_423 ?_
  refine a_st (st2 := [.int 1, .ref 1000000, .ref 89, .int r]) (congrArg (fun z => Value.int z :: [.ref 1000000, .ref 89, .int r]) (by decide)) ?_
  refine a_ldX dL_law_424 (show vp_in 1 6 from by unfold vp_in; decide +kernel) ?_
  refine a_st (st2 := [.int (xs 1), .ref 89, .int r]) rfl ?_
  refine a_callV (As := [.int (xs 1)]) (st := [.int r]) (a := 89) (ci := 11) (bc := bc) (bs := bs) (mc := 0) (ms := 0) false dL_law_425 mw_X11_goalByte rfl (Or.inl ⟨rfl, ml_L_52⟩) im_X11_goalByte se_X11_goalByte (by decide) (cm_l (cm_of hF) (by decide)) (cm_s (cm_of hF) (by decide) rfl) rfl (Nat.le_of_ble_eq_true rfl) (hr M1 hF) (fun v M2 hq => ?_)
  obtain ⟨rfl, -⟩ := hq
  exact a_icmp_eq 957 dL_law_428 (by decide) (fun _ => lw_end) (fun c => absurd rfl c)
set_option maxHeartbeats 4000000 in
theorem lw_c9 {xs : Nat → Int32} {bc bs : Nat} {M : Mem} (h : Cw 126 Lj134 fs42 gs31 M) : AW (6, xs) (RL, cL_law, 4, (some .boolean), false, true, 21) bc bs 433 [(3, .int 0), (2, .ref 89), (1, .ref 0), (0, .ref 1000000)] [] M (fun v _ => v = some (.int 1)) := by
  obtain ⟨r, hc, hr⟩ := pr_spell (6, xs) (xs 1) (xs 2) (xs 3)
  refine a_aload_n dL_law_433 rfl rfl ?_
  refine a_aload_n dL_law_434 rfl rfl ?_
  refine a_iload_n dL_law_435 rfl rfl ?_
  refine a_iconst (v := 1) dL_law_436 (by decide) ?_
  refine a_iadd dL_law_437 ?_
  refine a_st (st2 := [.int 1, .ref 1000000, .ref 0]) (congrArg (fun z => Value.int z :: [.ref 1000000, .ref 0]) (by decide)) ?_
  refine a_ldX dL_law_438 (show vp_in 1 6 from by unfold vp_in; decide +kernel) ?_
  refine a_st (st2 := [.int (xs 1), .ref 0]) rfl ?_
  refine a_aload_n dL_law_439 rfl rfl ?_
  refine a_iload_n dL_law_440 rfl rfl ?_
  refine a_iconst (v := 2) dL_law_441 (by decide) ?_
  refine a_iadd dL_law_442 ?_
  refine a_st (st2 := [.int 2, .ref 1000000, .int (xs 1), .ref 0]) (congrArg (fun z => Value.int z :: [.ref 1000000, .int (xs 1), .ref 0]) (by decide)) ?_
  refine a_ldX dL_law_443 (show vp_in 2 6 from by unfold vp_in; decide +kernel) ?_
  refine a_st (st2 := [.int (xs 2), .int (xs 1), .ref 0]) rfl ?_
  refine a_aload_n dL_law_444 rfl rfl ?_
  refine a_iload_n dL_law_445 rfl rfl ?_
  refine a_iconst (v := 3) dL_law_446 (by decide) ?_
  refine a_iadd dL_law_447 ?_
  refine a_st (st2 := [.int 3, .ref 1000000, .int (xs 2), .int (xs 1), .ref 0]) (congrArg (fun z => Value.int z :: [.ref 1000000, .int (xs 2), .int (xs 1), .ref 0]) (by decide)) ?_
  refine a_ldX dL_law_448 (show vp_in 3 6 from by unfold vp_in; decide +kernel) ?_
  refine a_st (st2 := [.int (xs 3), .int (xs 2), .int (xs 1), .ref 0]) rfl ?_
  refine a_callV (As := [.int (xs 1), .int (xs 2), .int (xs 3)]) (st := []) (a := 0) (ci := 10) (bc := bc) (bs := bs) (mc := 0) (ms := 0) false dL_law_449 mw_X10_spell rfl (Or.inl ⟨rfl, ml_L_53⟩) im_X10_spell se_X10_spell (by decide) (cw_l h (by decide)) (cw_s h (by decide) rfl) rfl (Nat.le_of_ble_eq_true rfl) (hc M h) (fun v M1 hq => ?_)
  obtain ⟨rfl, hF⟩ := hq
  show AW (6, xs) (RL, cL_law, 4, (some .boolean), false, true, 21) bc bs 452 _ [.int r] M1 _
  refine a_aload_n dL_law_452 rfl rfl ?_
  refine a_aload_n dL_law_453 rfl rfl ?_
  refine a_iload_n dL_law_454 rfl rfl ?_
  refine a_iconst (v := 1) dL_law_455 (by decide) ?_
  refine a_iadd dL_law_456 ?_
  refine a_st (st2 := [.int 1, .ref 1000000, .ref 89, .int r]) (congrArg (fun z => Value.int z :: [.ref 1000000, .ref 89, .int r]) (by decide)) ?_
  refine a_ldX dL_law_457 (show vp_in 1 6 from by unfold vp_in; decide +kernel) ?_
  refine a_st (st2 := [.int (xs 1), .ref 89, .int r]) rfl ?_
  refine a_aload_n dL_law_458 rfl rfl ?_
  refine a_iload_n dL_law_459 rfl rfl ?_
  refine a_iconst (v := 2) dL_law_460 (by decide) ?_
  refine a_iadd dL_law_461 ?_
  refine a_st (st2 := [.int 2, .ref 1000000, .int (xs 1), .ref 89, .int r]) (congrArg (fun z => Value.int z :: [.ref 1000000, .int (xs 1), .ref 89, .int r]) (by decide)) ?_
  refine a_ldX dL_law_462 (show vp_in 2 6 from by unfold vp_in; decide +kernel) ?_
  refine a_st (st2 := [.int (xs 2), .int (xs 1), .ref 89, .int r]) rfl ?_
  refine a_aload_n dL_law_463 rfl rfl ?_
  refine a_iload_n dL_law_464 rfl rfl ?_
  refine a_iconst (v := 3) dL_law_465 (by decide) ?_
  refine a_iadd dL_law_466 ?_
  refine a_st (st2 := [.int 3, .ref 1000000, .int (xs 2), .int (xs 1), .ref 89, .int r]) (congrArg (fun z => Value.int z :: [.ref 1000000, .int (xs 2), .int (xs 1), .ref 89, .int r]) (by decide)) ?_
  refine a_ldX dL_law_467 (show vp_in 3 6 from by unfold vp_in; decide +kernel) ?_
  refine a_st (st2 := [.int (xs 3), .int (xs 2), .int (xs 1), .ref 89, .int r]) rfl ?_
  refine a_callV (As := [.int (xs 1), .int (xs 2), .int (xs 3)]) (st := [.int r]) (a := 89) (ci := 11) (bc := bc) (bs := bs) (mc := 0) (ms := 0) false dL_law_468 mw_X11_spell rfl (Or.inl ⟨rfl, ml_L_56⟩) im_X11_spell se_X11_spell (by decide) (cm_l (cm_of hF) (by decide)) (cm_s (cm_of hF) (by decide) rfl) rfl (Nat.le_of_ble_eq_true rfl) (hr M1 hF) (fun v M2 hq => ?_)
  obtain ⟨rfl, -⟩ := hq
  exact a_icmp_eq 957 dL_law_471 (by decide) (fun _ => lw_end) (fun c => absurd rfl c)
set_option maxHeartbeats 4000000 in
theorem lw_c10 {xs : Nat → Int32} {bc bs : Nat} {M : Mem} (h : Cw 126 Lj134 fs42 gs31 M) : AW (6, xs) (RL, cL_law, 4, (some .boolean), false, true, 21) bc bs 476 [(3, .int 0), (2, .ref 89), (1, .ref 0), (0, .ref 1000000)] [] M (fun v _ => v = some (.int 1)) := by
  obtain ⟨r, hc, hr⟩ := pr_length (6, xs) (xs 1) (xs 2)
  refine a_aload_n dL_law_476 rfl rfl ?_
  refine a_aload_n dL_law_477 rfl rfl ?_
  refine a_iload_n dL_law_478 rfl rfl ?_
  refine a_iconst (v := 1) dL_law_479 (by decide) ?_
  refine a_iadd dL_law_480 ?_
  refine a_st (st2 := [.int 1, .ref 1000000, .ref 0]) (congrArg (fun z => Value.int z :: [.ref 1000000, .ref 0]) (by decide)) ?_
  refine a_ldX dL_law_481 (show vp_in 1 6 from by unfold vp_in; decide +kernel) ?_
  refine a_st (st2 := [.int (xs 1), .ref 0]) rfl ?_
  refine a_aload_n dL_law_482 rfl rfl ?_
  refine a_iload_n dL_law_483 rfl rfl ?_
  refine a_iconst (v := 2) dL_law_484 (by decide) ?_
  refine a_iadd dL_law_485 ?_
  refine a_st (st2 := [.int 2, .ref 1000000, .int (xs 1), .ref 0]) (congrArg (fun z => Value.int z :: [.ref 1000000, .int (xs 1), .ref 0]) (by decide)) ?_
  refine a_ldX dL_law_486 (show vp_in 2 6 from by unfold vp_in; decide +kernel) ?_
  refine a_st (st2 := [.int (xs 2), .int (xs 1), .ref 0]) rfl ?_
  refine a_callV (As := [.int (xs 1), .int (xs 2)]) (st := []) (a := 0) (ci := 10) (bc := bc) (bs := bs) (mc := 0) (ms := 0) false dL_law_487 mw_X10_length rfl (Or.inl ⟨rfl, ml_L_57⟩) im_X10_length se_X10_length (by decide) (cw_l h (by decide)) (cw_s h (by decide) rfl) rfl (Nat.le_of_ble_eq_true rfl) (hc M h) (fun v M1 hq => ?_)
  obtain ⟨rfl, hF⟩ := hq
  show AW (6, xs) (RL, cL_law, 4, (some .boolean), false, true, 21) bc bs 490 _ [.int r] M1 _
  refine a_aload_n dL_law_490 rfl rfl ?_
  refine a_aload_n dL_law_491 rfl rfl ?_
  refine a_iload_n dL_law_492 rfl rfl ?_
  refine a_iconst (v := 1) dL_law_493 (by decide) ?_
  refine a_iadd dL_law_494 ?_
  refine a_st (st2 := [.int 1, .ref 1000000, .ref 89, .int r]) (congrArg (fun z => Value.int z :: [.ref 1000000, .ref 89, .int r]) (by decide)) ?_
  refine a_ldX dL_law_495 (show vp_in 1 6 from by unfold vp_in; decide +kernel) ?_
  refine a_st (st2 := [.int (xs 1), .ref 89, .int r]) rfl ?_
  refine a_aload_n dL_law_496 rfl rfl ?_
  refine a_iload_n dL_law_497 rfl rfl ?_
  refine a_iconst (v := 2) dL_law_498 (by decide) ?_
  refine a_iadd dL_law_499 ?_
  refine a_st (st2 := [.int 2, .ref 1000000, .int (xs 1), .ref 89, .int r]) (congrArg (fun z => Value.int z :: [.ref 1000000, .int (xs 1), .ref 89, .int r]) (by decide)) ?_
  refine a_ldX dL_law_500 (show vp_in 2 6 from by unfold vp_in; decide +kernel) ?_
  refine a_st (st2 := [.int (xs 2), .int (xs 1), .ref 89, .int r]) rfl ?_
  refine a_callV (As := [.int (xs 1), .int (xs 2)]) (st := [.int r]) (a := 89) (ci := 11) (bc := bc) (bs := bs) (mc := 0) (ms := 0) false dL_law_501 mw_X11_length rfl (Or.inl ⟨rfl, ml_L_60⟩) im_X11_length se_X11_length (by decide) (cm_l (cm_of hF) (by decide)) (cm_s (cm_of hF) (by decide) rfl) rfl (Nat.le_of_ble_eq_true rfl) (hr M1 hF) (fun v M2 hq => ?_)
  obtain ⟨rfl, -⟩ := hq
  exact a_icmp_eq 957 dL_law_504 (by decide) (fun _ => lw_end) (fun c => absurd rfl c)
set_option maxHeartbeats 4000000 in
theorem lw_c11 {xs : Nat → Int32} {bc bs : Nat} {M : Mem} (h : Cw 126 Lj134 fs42 gs31 M) : AW (6, xs) (RL, cL_law, 4, (some .boolean), false, true, 21) bc bs 509 [(3, .int 0), (2, .ref 89), (1, .ref 0), (0, .ref 1000000)] [] M (fun v _ => v = some (.int 1)) := by
  obtain ⟨r, hc, hr⟩ := pr_size (6, xs) (xs 1) (xs 2)
  refine a_aload_n dL_law_509 rfl rfl ?_
  refine a_aload_n dL_law_510 rfl rfl ?_
  refine a_iload_n dL_law_511 rfl rfl ?_
  refine a_iconst (v := 1) dL_law_512 (by decide) ?_
  refine a_iadd dL_law_513 ?_
  refine a_st (st2 := [.int 1, .ref 1000000, .ref 0]) (congrArg (fun z => Value.int z :: [.ref 1000000, .ref 0]) (by decide)) ?_
  refine a_ldX dL_law_514 (show vp_in 1 6 from by unfold vp_in; decide +kernel) ?_
  refine a_st (st2 := [.int (xs 1), .ref 0]) rfl ?_
  refine a_aload_n dL_law_515 rfl rfl ?_
  refine a_iload_n dL_law_516 rfl rfl ?_
  refine a_iconst (v := 2) dL_law_517 (by decide) ?_
  refine a_iadd dL_law_518 ?_
  refine a_st (st2 := [.int 2, .ref 1000000, .int (xs 1), .ref 0]) (congrArg (fun z => Value.int z :: [.ref 1000000, .int (xs 1), .ref 0]) (by decide)) ?_
  refine a_ldX dL_law_519 (show vp_in 2 6 from by unfold vp_in; decide +kernel) ?_
  refine a_st (st2 := [.int (xs 2), .int (xs 1), .ref 0]) rfl ?_
  refine a_callV (As := [.int (xs 1), .int (xs 2)]) (st := []) (a := 0) (ci := 10) (bc := bc) (bs := bs) (mc := 0) (ms := 0) false dL_law_520 mw_X10_size rfl (Or.inl ⟨rfl, ml_L_61⟩) im_X10_size se_X10_size (by decide) (cw_l h (by decide)) (cw_s h (by decide) rfl) rfl (Nat.le_of_ble_eq_true rfl) (hc M h) (fun v M1 hq => ?_)
  obtain ⟨rfl, hF⟩ := hq
  show AW (6, xs) (RL, cL_law, 4, (some .boolean), false, true, 21) bc bs 523 _ [.int r] M1 _
  refine a_aload_n dL_law_523 rfl rfl ?_
  refine a_aload_n dL_law_524 rfl rfl ?_
  refine a_iload_n dL_law_525 rfl rfl ?_
  refine a_iconst (v := 1) dL_law_526 (by decide) ?_
  refine a_iadd dL_law_527 ?_
  refine a_st (st2 := [.int 1, .ref 1000000, .ref 89, .int r]) (congrArg (fun z => Value.int z :: [.ref 1000000, .ref 89, .int r]) (by decide)) ?_
  refine a_ldX dL_law_528 (show vp_in 1 6 from by unfold vp_in; decide +kernel) ?_
  refine a_st (st2 := [.int (xs 1), .ref 89, .int r]) rfl ?_
  refine a_aload_n dL_law_529 rfl rfl ?_
  refine a_iload_n dL_law_530 rfl rfl ?_
  refine a_iconst (v := 2) dL_law_531 (by decide) ?_
  refine a_iadd dL_law_532 ?_
  refine a_st (st2 := [.int 2, .ref 1000000, .int (xs 1), .ref 89, .int r]) (congrArg (fun z => Value.int z :: [.ref 1000000, .int (xs 1), .ref 89, .int r]) (by decide)) ?_
  refine a_ldX dL_law_533 (show vp_in 2 6 from by unfold vp_in; decide +kernel) ?_
  refine a_st (st2 := [.int (xs 2), .int (xs 1), .ref 89, .int r]) rfl ?_
  refine a_callV (As := [.int (xs 1), .int (xs 2)]) (st := [.int r]) (a := 89) (ci := 11) (bc := bc) (bs := bs) (mc := 0) (ms := 0) false dL_law_534 mw_X11_size rfl (Or.inl ⟨rfl, ml_L_64⟩) im_X11_size se_X11_size (by decide) (cm_l (cm_of hF) (by decide)) (cm_s (cm_of hF) (by decide) rfl) rfl (Nat.le_of_ble_eq_true rfl) (hr M1 hF) (fun v M2 hq => ?_)
  obtain ⟨rfl, -⟩ := hq
  exact a_icmp_eq 957 dL_law_537 (by decide) (fun _ => lw_end) (fun c => absurd rfl c)
set_option maxHeartbeats 4000000 in
theorem lw_c12 {xs : Nat → Int32} {bc bs : Nat} {M : Mem} (h : Cw 126 Lj134 fs42 gs31 M) : AW (6, xs) (RL, cL_law, 4, (some .boolean), false, true, 21) bc bs 542 [(3, .int 0), (2, .ref 89), (1, .ref 0), (0, .ref 1000000)] [] M (fun v _ => v = some (.int 1)) := by
  obtain ⟨r, hc, hr⟩ := pr_redexes (6, xs) (xs 1) (xs 2)
  refine a_aload_n dL_law_542 rfl rfl ?_
  refine a_aload_n dL_law_543 rfl rfl ?_
  refine a_iload_n dL_law_544 rfl rfl ?_
  refine a_iconst (v := 1) dL_law_545 (by decide) ?_
  refine a_iadd dL_law_546 ?_
  refine a_st (st2 := [.int 1, .ref 1000000, .ref 0]) (congrArg (fun z => Value.int z :: [.ref 1000000, .ref 0]) (by decide)) ?_
  refine a_ldX dL_law_547 (show vp_in 1 6 from by unfold vp_in; decide +kernel) ?_
  refine a_st (st2 := [.int (xs 1), .ref 0]) rfl ?_
  refine a_aload_n dL_law_548 rfl rfl ?_
  refine a_iload_n dL_law_549 rfl rfl ?_
  refine a_iconst (v := 2) dL_law_550 (by decide) ?_
  refine a_iadd dL_law_551 ?_
  refine a_st (st2 := [.int 2, .ref 1000000, .int (xs 1), .ref 0]) (congrArg (fun z => Value.int z :: [.ref 1000000, .int (xs 1), .ref 0]) (by decide)) ?_
  refine a_ldX dL_law_552 (show vp_in 2 6 from by unfold vp_in; decide +kernel) ?_
  refine a_st (st2 := [.int (xs 2), .int (xs 1), .ref 0]) rfl ?_
  refine a_callV (As := [.int (xs 1), .int (xs 2)]) (st := []) (a := 0) (ci := 10) (bc := bc) (bs := bs) (mc := 0) (ms := 0) false dL_law_553 mw_X10_redexes rfl (Or.inl ⟨rfl, ml_L_65⟩) im_X10_redexes se_X10_redexes (by decide) (cw_l h (by decide)) (cw_s h (by decide) rfl) rfl (Nat.le_of_ble_eq_true rfl) (hc M h) (fun v M1 hq => ?_)
  obtain ⟨rfl, hF⟩ := hq
  show AW (6, xs) (RL, cL_law, 4, (some .boolean), false, true, 21) bc bs 556 _ [.int r] M1 _
  refine a_aload_n dL_law_556 rfl rfl ?_
  refine a_aload_n dL_law_557 rfl rfl ?_
  refine a_iload_n dL_law_558 rfl rfl ?_
  refine a_iconst (v := 1) dL_law_559 (by decide) ?_
  refine a_iadd dL_law_560 ?_
  refine a_st (st2 := [.int 1, .ref 1000000, .ref 89, .int r]) (congrArg (fun z => Value.int z :: [.ref 1000000, .ref 89, .int r]) (by decide)) ?_
  refine a_ldX dL_law_561 (show vp_in 1 6 from by unfold vp_in; decide +kernel) ?_
  refine a_st (st2 := [.int (xs 1), .ref 89, .int r]) rfl ?_
  refine a_aload_n dL_law_562 rfl rfl ?_
  refine a_iload_n dL_law_563 rfl rfl ?_
  refine a_iconst (v := 2) dL_law_564 (by decide) ?_
  refine a_iadd dL_law_565 ?_
  refine a_st (st2 := [.int 2, .ref 1000000, .int (xs 1), .ref 89, .int r]) (congrArg (fun z => Value.int z :: [.ref 1000000, .int (xs 1), .ref 89, .int r]) (by decide)) ?_
  refine a_ldX dL_law_566 (show vp_in 2 6 from by unfold vp_in; decide +kernel) ?_
  refine a_st (st2 := [.int (xs 2), .int (xs 1), .ref 89, .int r]) rfl ?_
  refine a_callV (As := [.int (xs 1), .int (xs 2)]) (st := [.int r]) (a := 89) (ci := 11) (bc := bc) (bs := bs) (mc := 0) (ms := 0) false dL_law_567 mw_X11_redexes rfl (Or.inl ⟨rfl, ml_L_68⟩) im_X11_redexes se_X11_redexes (by decide) (cm_l (cm_of hF) (by decide)) (cm_s (cm_of hF) (by decide) rfl) rfl (Nat.le_of_ble_eq_true rfl) (hr M1 hF) (fun v M2 hq => ?_)
  obtain ⟨rfl, -⟩ := hq
  exact a_icmp_eq 957 dL_law_570 (by decide) (fun _ => lw_end) (fun c => absurd rfl c)
set_option maxHeartbeats 4000000 in
theorem lw_c13 {xs : Nat → Int32} {bc bs : Nat} {M : Mem} (h : Cw 126 Lj134 fs42 gs31 M) : AW (6, xs) (RL, cL_law, 4, (some .boolean), false, true, 21) bc bs 575 [(3, .int 0), (2, .ref 89), (1, .ref 0), (0, .ref 1000000)] [] M (fun v _ => v = some (.int 1)) := by
  obtain ⟨r, hc, hr⟩ := pr_step (6, xs) (xs 1)
  refine a_aload_n dL_law_575 rfl rfl ?_
  refine a_aload_n dL_law_576 rfl rfl ?_
  refine a_iload_n dL_law_577 rfl rfl ?_
  refine a_iconst (v := 1) dL_law_578 (by decide) ?_
  refine a_iadd dL_law_579 ?_
  refine a_st (st2 := [.int 1, .ref 1000000, .ref 0]) (congrArg (fun z => Value.int z :: [.ref 1000000, .ref 0]) (by decide)) ?_
  refine a_ldX dL_law_580 (show vp_in 1 6 from by unfold vp_in; decide +kernel) ?_
  refine a_st (st2 := [.int (xs 1), .ref 0]) rfl ?_
  refine a_callV (As := [.int (xs 1)]) (st := []) (a := 0) (ci := 10) (bc := bc) (bs := bs) (mc := 0) (ms := 0) false dL_law_581 mw_X10_step rfl (Or.inl ⟨rfl, ml_L_69⟩) im_X10_step se_X10_step (by decide) (cw_l h (by decide)) (cw_s h (by decide) rfl) rfl (Nat.le_of_ble_eq_true rfl) (hc M h) (fun v M1 hq => ?_)
  obtain ⟨rfl, hF⟩ := hq
  show AW (6, xs) (RL, cL_law, 4, (some .boolean), false, true, 21) bc bs 584 _ [.int r] M1 _
  refine a_aload_n dL_law_584 rfl rfl ?_
  refine a_aload_n dL_law_585 rfl rfl ?_
  refine a_iload_n dL_law_586 rfl rfl ?_
  refine a_iconst (v := 1) dL_law_587 (by decide) ?_
  refine a_iadd dL_law_588 ?_
  refine a_st (st2 := [.int 1, .ref 1000000, .ref 89, .int r]) (congrArg (fun z => Value.int z :: [.ref 1000000, .ref 89, .int r]) (by decide)) ?_
  refine a_ldX dL_law_589 (show vp_in 1 6 from by unfold vp_in; decide +kernel) ?_
  refine a_st (st2 := [.int (xs 1), .ref 89, .int r]) rfl ?_
  refine a_callV (As := [.int (xs 1)]) (st := [.int r]) (a := 89) (ci := 11) (bc := bc) (bs := bs) (mc := 0) (ms := 0) false dL_law_590 mw_X11_step rfl (Or.inl ⟨rfl, ml_L_72⟩) im_X11_step se_X11_step (by decide) (cm_l (cm_of hF) (by decide)) (cm_s (cm_of hF) (by decide) rfl) rfl (Nat.le_of_ble_eq_true rfl) (hr M1 hF) (fun v M2 hq => ?_)
  obtain ⟨rfl, -⟩ := hq
  exact a_icmp_eq 957 dL_law_593 (by decide) (fun _ => lw_end) (fun c => absurd rfl c)
set_option maxHeartbeats 4000000 in
theorem lw_c14 {xs : Nat → Int32} {bc bs : Nat} {M : Mem} (h : Cw 126 Lj134 fs42 gs31 M) : AW (6, xs) (RL, cL_law, 4, (some .boolean), false, true, 21) bc bs 598 [(3, .int 0), (2, .ref 89), (1, .ref 0), (0, .ref 1000000)] [] M (fun v _ => v = some (.int 1)) := by
  obtain ⟨r, hc, hr⟩ := pr_normal (6, xs) (xs 1)
  refine a_aload_n dL_law_598 rfl rfl ?_
  refine a_aload_n dL_law_599 rfl rfl ?_
  refine a_iload_n dL_law_600 rfl rfl ?_
  refine a_iconst (v := 1) dL_law_601 (by decide) ?_
  refine a_iadd dL_law_602 ?_
  refine a_st (st2 := [.int 1, .ref 1000000, .ref 0]) (congrArg (fun z => Value.int z :: [.ref 1000000, .ref 0]) (by decide)) ?_
  refine a_ldX dL_law_603 (show vp_in 1 6 from by unfold vp_in; decide +kernel) ?_
  refine a_st (st2 := [.int (xs 1), .ref 0]) rfl ?_
  refine a_callV (As := [.int (xs 1)]) (st := []) (a := 0) (ci := 10) (bc := bc) (bs := bs) (mc := 0) (ms := 0) false dL_law_604 mw_X10_normal rfl (Or.inl ⟨rfl, ml_L_73⟩) im_X10_normal se_X10_normal (by decide) (cw_l h (by decide)) (cw_s h (by decide) rfl) rfl (Nat.le_of_ble_eq_true rfl) (hc M h) (fun v M1 hq => ?_)
  obtain ⟨rfl, hF⟩ := hq
  show AW (6, xs) (RL, cL_law, 4, (some .boolean), false, true, 21) bc bs 607 _ [.int r] M1 _
  refine a_aload_n dL_law_607 rfl rfl ?_
  refine a_aload_n dL_law_608 rfl rfl ?_
  refine a_iload_n dL_law_609 rfl rfl ?_
  refine a_iconst (v := 1) dL_law_610 (by decide) ?_
  refine a_iadd dL_law_611 ?_
  refine a_st (st2 := [.int 1, .ref 1000000, .ref 89, .int r]) (congrArg (fun z => Value.int z :: [.ref 1000000, .ref 89, .int r]) (by decide)) ?_
  refine a_ldX dL_law_612 (show vp_in 1 6 from by unfold vp_in; decide +kernel) ?_
  refine a_st (st2 := [.int (xs 1), .ref 89, .int r]) rfl ?_
  refine a_callV (As := [.int (xs 1)]) (st := [.int r]) (a := 89) (ci := 11) (bc := bc) (bs := bs) (mc := 0) (ms := 0) false dL_law_613 mw_X11_normal rfl (Or.inl ⟨rfl, ml_L_76⟩) im_X11_normal se_X11_normal (by decide) (cm_l (cm_of hF) (by decide)) (cm_s (cm_of hF) (by decide) rfl) rfl (Nat.le_of_ble_eq_true rfl) (hr M1 hF) (fun v M2 hq => ?_)
  obtain ⟨rfl, -⟩ := hq
  exact a_icmp_eq 957 dL_law_616 (by decide) (fun _ => lw_end) (fun c => absurd rfl c)
set_option maxHeartbeats 4000000 in
theorem lw_c15 {xs : Nat → Int32} {bc bs : Nat} {M : Mem} (h : Cw 126 Lj134 fs42 gs31 M) : AW (6, xs) (RL, cL_law, 4, (some .boolean), false, true, 21) bc bs 621 [(3, .int 0), (2, .ref 89), (1, .ref 0), (0, .ref 1000000)] [] M (fun v _ => v = some (.int 1)) := by
  obtain ⟨r, hc, hr⟩ := pr_trace (6, xs) (xs 1)
  refine a_aload_n dL_law_621 rfl rfl ?_
  refine a_aload_n dL_law_622 rfl rfl ?_
  refine a_iload_n dL_law_623 rfl rfl ?_
  refine a_iconst (v := 1) dL_law_624 (by decide) ?_
  refine a_iadd dL_law_625 ?_
  refine a_st (st2 := [.int 1, .ref 1000000, .ref 0]) (congrArg (fun z => Value.int z :: [.ref 1000000, .ref 0]) (by decide)) ?_
  refine a_ldX dL_law_626 (show vp_in 1 6 from by unfold vp_in; decide +kernel) ?_
  refine a_st (st2 := [.int (xs 1), .ref 0]) rfl ?_
  refine a_callV (As := [.int (xs 1)]) (st := []) (a := 0) (ci := 10) (bc := bc) (bs := bs) (mc := 0) (ms := 0) false dL_law_627 mw_X10_trace rfl (Or.inl ⟨rfl, ml_L_77⟩) im_X10_trace se_X10_trace (by decide) (cw_l h (by decide)) (cw_s h (by decide) rfl) rfl (Nat.le_of_ble_eq_true rfl) (hc M h) (fun v M1 hq => ?_)
  obtain ⟨rfl, hF⟩ := hq
  show AW (6, xs) (RL, cL_law, 4, (some .boolean), false, true, 21) bc bs 630 _ [.int r] M1 _
  refine a_aload_n dL_law_630 rfl rfl ?_
  refine a_aload_n dL_law_631 rfl rfl ?_
  refine a_iload_n dL_law_632 rfl rfl ?_
  refine a_iconst (v := 1) dL_law_633 (by decide) ?_
  refine a_iadd dL_law_634 ?_
  refine a_st (st2 := [.int 1, .ref 1000000, .ref 89, .int r]) (congrArg (fun z => Value.int z :: [.ref 1000000, .ref 89, .int r]) (by decide)) ?_
  refine a_ldX dL_law_635 (show vp_in 1 6 from by unfold vp_in; decide +kernel) ?_
  refine a_st (st2 := [.int (xs 1), .ref 89, .int r]) rfl ?_
  refine a_callV (As := [.int (xs 1)]) (st := [.int r]) (a := 89) (ci := 11) (bc := bc) (bs := bs) (mc := 0) (ms := 0) false dL_law_636 mw_X11_trace rfl (Or.inl ⟨rfl, ml_L_80⟩) im_X11_trace se_X11_trace (by decide) (cm_l (cm_of hF) (by decide)) (cm_s (cm_of hF) (by decide) rfl) rfl (Nat.le_of_ble_eq_true rfl) (hr M1 hF) (fun v M2 hq => ?_)
  obtain ⟨rfl, -⟩ := hq
  exact a_icmp_eq 957 dL_law_639 (by decide) (fun _ => lw_end) (fun c => absurd rfl c)
set_option maxHeartbeats 4000000 in
theorem lw_c16 {xs : Nat → Int32} {bc bs : Nat} {M : Mem} (h : Cw 126 Lj134 fs42 gs31 M) : AW (6, xs) (RL, cL_law, 4, (some .boolean), false, true, 21) bc bs 644 [(3, .int 0), (2, .ref 89), (1, .ref 0), (0, .ref 1000000)] [] M (fun v _ => v = some (.int 1)) := by
  obtain ⟨r, hc, hr⟩ := pr_cut (6, xs) (xs 1) (xs 2) (xs 3) (xs 4)
  refine a_aload_n dL_law_644 rfl rfl ?_
  refine a_aload_n dL_law_645 rfl rfl ?_
  refine a_iload_n dL_law_646 rfl rfl ?_
  refine a_iconst (v := 1) dL_law_647 (by decide) ?_
  refine a_iadd dL_law_648 ?_
  refine a_st (st2 := [.int 1, .ref 1000000, .ref 0]) (congrArg (fun z => Value.int z :: [.ref 1000000, .ref 0]) (by decide)) ?_
  refine a_ldX dL_law_649 (show vp_in 1 6 from by unfold vp_in; decide +kernel) ?_
  refine a_st (st2 := [.int (xs 1), .ref 0]) rfl ?_
  refine a_aload_n dL_law_650 rfl rfl ?_
  refine a_iload_n dL_law_651 rfl rfl ?_
  refine a_iconst (v := 2) dL_law_652 (by decide) ?_
  refine a_iadd dL_law_653 ?_
  refine a_st (st2 := [.int 2, .ref 1000000, .int (xs 1), .ref 0]) (congrArg (fun z => Value.int z :: [.ref 1000000, .int (xs 1), .ref 0]) (by decide)) ?_
  refine a_ldX dL_law_654 (show vp_in 2 6 from by unfold vp_in; decide +kernel) ?_
  refine a_st (st2 := [.int (xs 2), .int (xs 1), .ref 0]) rfl ?_
  refine a_aload_n dL_law_655 rfl rfl ?_
  refine a_iload_n dL_law_656 rfl rfl ?_
  refine a_iconst (v := 3) dL_law_657 (by decide) ?_
  refine a_iadd dL_law_658 ?_
  refine a_st (st2 := [.int 3, .ref 1000000, .int (xs 2), .int (xs 1), .ref 0]) (congrArg (fun z => Value.int z :: [.ref 1000000, .int (xs 2), .int (xs 1), .ref 0]) (by decide)) ?_
  refine a_ldX dL_law_659 (show vp_in 3 6 from by unfold vp_in; decide +kernel) ?_
  refine a_st (st2 := [.int (xs 3), .int (xs 2), .int (xs 1), .ref 0]) rfl ?_
  refine a_aload_n dL_law_660 rfl rfl ?_
  refine a_iload_n dL_law_661 rfl rfl ?_
  refine a_iconst (v := 4) dL_law_662 (by decide) ?_
  refine a_iadd dL_law_663 ?_
  refine a_st (st2 := [.int 4, .ref 1000000, .int (xs 3), .int (xs 2), .int (xs 1), .ref 0]) (congrArg (fun z => Value.int z :: [.ref 1000000, .int (xs 3), .int (xs 2), .int (xs 1), .ref 0]) (by decide)) ?_
  refine a_ldX dL_law_664 (show vp_in 4 6 from by unfold vp_in; decide +kernel) ?_
  refine a_st (st2 := [.int (xs 4), .int (xs 3), .int (xs 2), .int (xs 1), .ref 0]) rfl ?_
  refine a_callV (As := [.int (xs 1), .int (xs 2), .int (xs 3), .int (xs 4)]) (st := []) (a := 0) (ci := 10) (bc := bc) (bs := bs) (mc := 0) (ms := 0) false dL_law_665 mw_X10_cut rfl (Or.inl ⟨rfl, ml_L_81⟩) im_X10_cut se_X10_cut (by decide) (cw_l h (by decide)) (cw_s h (by decide) rfl) rfl (Nat.le_of_ble_eq_true rfl) (hc M h) (fun v M1 hq => ?_)
  obtain ⟨rfl, hF⟩ := hq
  show AW (6, xs) (RL, cL_law, 4, (some .boolean), false, true, 21) bc bs 668 _ [.int r] M1 _
  refine a_aload_n dL_law_668 rfl rfl ?_
  refine a_aload_n dL_law_669 rfl rfl ?_
  refine a_iload_n dL_law_670 rfl rfl ?_
  refine a_iconst (v := 1) dL_law_671 (by decide) ?_
  refine a_iadd dL_law_672 ?_
  refine a_st (st2 := [.int 1, .ref 1000000, .ref 89, .int r]) (congrArg (fun z => Value.int z :: [.ref 1000000, .ref 89, .int r]) (by decide)) ?_
  refine a_ldX dL_law_673 (show vp_in 1 6 from by unfold vp_in; decide +kernel) ?_
  refine a_st (st2 := [.int (xs 1), .ref 89, .int r]) rfl ?_
  refine a_aload_n dL_law_674 rfl rfl ?_
  refine a_iload_n dL_law_675 rfl rfl ?_
  refine a_iconst (v := 2) dL_law_676 (by decide) ?_
  refine a_iadd dL_law_677 ?_
  refine a_st (st2 := [.int 2, .ref 1000000, .int (xs 1), .ref 89, .int r]) (congrArg (fun z => Value.int z :: [.ref 1000000, .int (xs 1), .ref 89, .int r]) (by decide)) ?_
  refine a_ldX dL_law_678 (show vp_in 2 6 from by unfold vp_in; decide +kernel) ?_
  refine a_st (st2 := [.int (xs 2), .int (xs 1), .ref 89, .int r]) rfl ?_
  refine a_aload_n dL_law_679 rfl rfl ?_
  refine a_iload_n dL_law_680 rfl rfl ?_
  refine a_iconst (v := 3) dL_law_681 (by decide) ?_
  refine a_iadd dL_law_682 ?_
  refine a_st (st2 := [.int 3, .ref 1000000, .int (xs 2), .int (xs 1), .ref 89, .int r]) (congrArg (fun z => Value.int z :: [.ref 1000000, .int (xs 2), .int (xs 1), .ref 89, .int r]) (by decide)) ?_
  refine a_ldX dL_law_683 (show vp_in 3 6 from by unfold vp_in; decide +kernel) ?_
  refine a_st (st2 := [.int (xs 3), .int (xs 2), .int (xs 1), .ref 89, .int r]) rfl ?_
  refine a_aload_n dL_law_684 rfl rfl ?_
  refine a_iload_n dL_law_685 rfl rfl ?_
  refine a_iconst (v := 4) dL_law_686 (by decide) ?_
  refine a_iadd dL_law_687 ?_
  refine a_st (st2 := [.int 4, .ref 1000000, .int (xs 3), .int (xs 2), .int (xs 1), .ref 89, .int r]) (congrArg (fun z => Value.int z :: [.ref 1000000, .int (xs 3), .int (xs 2), .int (xs 1), .ref 89, .int r]) (by decide)) ?_
  refine a_ldX dL_law_688 (show vp_in 4 6 from by unfold vp_in; decide +kernel) ?_
  refine a_st (st2 := [.int (xs 4), .int (xs 3), .int (xs 2), .int (xs 1), .ref 89, .int r]) rfl ?_
  refine a_callV (As := [.int (xs 1), .int (xs 2), .int (xs 3), .int (xs 4)]) (st := [.int r]) (a := 89) (ci := 11) (bc := bc) (bs := bs) (mc := 0) (ms := 0) false dL_law_689 mw_X11_cut rfl (Or.inl ⟨rfl, ml_L_85⟩) im_X11_cut se_X11_cut (by decide) (cm_l (cm_of hF) (by decide)) (cm_s (cm_of hF) (by decide) rfl) rfl (Nat.le_of_ble_eq_true rfl) (hr M1 hF) (fun v M2 hq => ?_)
  obtain ⟨rfl, -⟩ := hq
  exact a_icmp_eq 957 dL_law_692 (by decide) (fun _ => lw_end) (fun c => absurd rfl c)
set_option maxHeartbeats 4000000 in
theorem lw_c17 {xs : Nat → Int32} {bc bs : Nat} {M : Mem} (h : Cw 126 Lj134 fs42 gs31 M) : AW (6, xs) (RL, cL_law, 4, (some .boolean), false, true, 21) bc bs 697 [(3, .int 0), (2, .ref 89), (1, .ref 0), (0, .ref 1000000)] [] M (fun v _ => v = some (.int 1)) := by
  obtain ⟨r, hc, hr⟩ := pr_lines (6, xs) (xs 1)
  refine a_aload_n dL_law_697 rfl rfl ?_
  refine a_aload_n dL_law_698 rfl rfl ?_
  refine a_iload_n dL_law_699 rfl rfl ?_
  refine a_iconst (v := 1) dL_law_700 (by decide) ?_
  refine a_iadd dL_law_701 ?_
  refine a_st (st2 := [.int 1, .ref 1000000, .ref 0]) (congrArg (fun z => Value.int z :: [.ref 1000000, .ref 0]) (by decide)) ?_
  refine a_ldX dL_law_702 (show vp_in 1 6 from by unfold vp_in; decide +kernel) ?_
  refine a_st (st2 := [.int (xs 1), .ref 0]) rfl ?_
  refine a_callV (As := [.int (xs 1)]) (st := []) (a := 0) (ci := 10) (bc := bc) (bs := bs) (mc := 0) (ms := 0) false dL_law_703 mw_X10_lines rfl (Or.inl ⟨rfl, ml_L_86⟩) im_X10_lines se_X10_lines (by decide) (cw_l h (by decide)) (cw_s h (by decide) rfl) rfl (Nat.le_of_ble_eq_true rfl) (hc M h) (fun v M1 hq => ?_)
  obtain ⟨rfl, hF⟩ := hq
  show AW (6, xs) (RL, cL_law, 4, (some .boolean), false, true, 21) bc bs 706 _ [.int r] M1 _
  refine a_aload_n dL_law_706 rfl rfl ?_
  refine a_aload_n dL_law_707 rfl rfl ?_
  refine a_iload_n dL_law_708 rfl rfl ?_
  refine a_iconst (v := 1) dL_law_709 (by decide) ?_
  refine a_iadd dL_law_710 ?_
  refine a_st (st2 := [.int 1, .ref 1000000, .ref 89, .int r]) (congrArg (fun z => Value.int z :: [.ref 1000000, .ref 89, .int r]) (by decide)) ?_
  refine a_ldX dL_law_711 (show vp_in 1 6 from by unfold vp_in; decide +kernel) ?_
  refine a_st (st2 := [.int (xs 1), .ref 89, .int r]) rfl ?_
  refine a_callV (As := [.int (xs 1)]) (st := [.int r]) (a := 89) (ci := 11) (bc := bc) (bs := bs) (mc := 0) (ms := 0) false dL_law_712 mw_X11_lines rfl (Or.inl ⟨rfl, ml_L_89⟩) im_X11_lines se_X11_lines (by decide) (cm_l (cm_of hF) (by decide)) (cm_s (cm_of hF) (by decide) rfl) rfl (Nat.le_of_ble_eq_true rfl) (hr M1 hF) (fun v M2 hq => ?_)
  obtain ⟨rfl, -⟩ := hq
  exact a_icmp_eq 957 dL_law_715 (by decide) (fun _ => lw_end) (fun c => absurd rfl c)
set_option maxHeartbeats 4000000 in
theorem lw_c18 {xs : Nat → Int32} {bc bs : Nat} {M : Mem} (h : Cw 126 Lj134 fs42 gs31 M) : AW (6, xs) (RL, cL_law, 4, (some .boolean), false, true, 21) bc bs 720 [(3, .int 0), (2, .ref 89), (1, .ref 0), (0, .ref 1000000)] [] M (fun v _ => v = some (.int 1)) := by
  obtain ⟨r, hc, hr⟩ := pr_line (6, xs) (xs 1) (xs 2) (xs 3)
  refine a_aload_n dL_law_720 rfl rfl ?_
  refine a_aload_n dL_law_721 rfl rfl ?_
  refine a_iload_n dL_law_722 rfl rfl ?_
  refine a_iconst (v := 1) dL_law_723 (by decide) ?_
  refine a_iadd dL_law_724 ?_
  refine a_st (st2 := [.int 1, .ref 1000000, .ref 0]) (congrArg (fun z => Value.int z :: [.ref 1000000, .ref 0]) (by decide)) ?_
  refine a_ldX dL_law_725 (show vp_in 1 6 from by unfold vp_in; decide +kernel) ?_
  refine a_st (st2 := [.int (xs 1), .ref 0]) rfl ?_
  refine a_aload_n dL_law_726 rfl rfl ?_
  refine a_iload_n dL_law_727 rfl rfl ?_
  refine a_iconst (v := 2) dL_law_728 (by decide) ?_
  refine a_iadd dL_law_729 ?_
  refine a_st (st2 := [.int 2, .ref 1000000, .int (xs 1), .ref 0]) (congrArg (fun z => Value.int z :: [.ref 1000000, .int (xs 1), .ref 0]) (by decide)) ?_
  refine a_ldX dL_law_730 (show vp_in 2 6 from by unfold vp_in; decide +kernel) ?_
  refine a_st (st2 := [.int (xs 2), .int (xs 1), .ref 0]) rfl ?_
  refine a_aload_n dL_law_731 rfl rfl ?_
  refine a_iload_n dL_law_732 rfl rfl ?_
  refine a_iconst (v := 3) dL_law_733 (by decide) ?_
  refine a_iadd dL_law_734 ?_
  refine a_st (st2 := [.int 3, .ref 1000000, .int (xs 2), .int (xs 1), .ref 0]) (congrArg (fun z => Value.int z :: [.ref 1000000, .int (xs 2), .int (xs 1), .ref 0]) (by decide)) ?_
  refine a_ldX dL_law_735 (show vp_in 3 6 from by unfold vp_in; decide +kernel) ?_
  refine a_st (st2 := [.int (xs 3), .int (xs 2), .int (xs 1), .ref 0]) rfl ?_
  refine a_callV (As := [.int (xs 1), .int (xs 2), .int (xs 3)]) (st := []) (a := 0) (ci := 10) (bc := bc) (bs := bs) (mc := 0) (ms := 0) false dL_law_736 mw_X10_line rfl (Or.inl ⟨rfl, ml_L_90⟩) im_X10_line se_X10_line (by decide) (cw_l h (by decide)) (cw_s h (by decide) rfl) rfl (Nat.le_of_ble_eq_true rfl) (hc M h) (fun v M1 hq => ?_)
  obtain ⟨rfl, hF⟩ := hq
  show AW (6, xs) (RL, cL_law, 4, (some .boolean), false, true, 21) bc bs 739 _ [.int r] M1 _
  refine a_aload_n dL_law_739 rfl rfl ?_
  refine a_aload_n dL_law_740 rfl rfl ?_
  refine a_iload_n dL_law_741 rfl rfl ?_
  refine a_iconst (v := 1) dL_law_742 (by decide) ?_
  refine a_iadd dL_law_743 ?_
  refine a_st (st2 := [.int 1, .ref 1000000, .ref 89, .int r]) (congrArg (fun z => Value.int z :: [.ref 1000000, .ref 89, .int r]) (by decide)) ?_
  refine a_ldX dL_law_744 (show vp_in 1 6 from by unfold vp_in; decide +kernel) ?_
  refine a_st (st2 := [.int (xs 1), .ref 89, .int r]) rfl ?_
  refine a_aload_n dL_law_745 rfl rfl ?_
  refine a_iload_n dL_law_746 rfl rfl ?_
  refine a_iconst (v := 2) dL_law_747 (by decide) ?_
  refine a_iadd dL_law_748 ?_
  refine a_st (st2 := [.int 2, .ref 1000000, .int (xs 1), .ref 89, .int r]) (congrArg (fun z => Value.int z :: [.ref 1000000, .int (xs 1), .ref 89, .int r]) (by decide)) ?_
  refine a_ldX dL_law_749 (show vp_in 2 6 from by unfold vp_in; decide +kernel) ?_
  refine a_st (st2 := [.int (xs 2), .int (xs 1), .ref 89, .int r]) rfl ?_
  refine a_aload_n dL_law_750 rfl rfl ?_
  refine a_iload_n dL_law_751 rfl rfl ?_
  refine a_iconst (v := 3) dL_law_752 (by decide) ?_
  refine a_iadd dL_law_753 ?_
  refine a_st (st2 := [.int 3, .ref 1000000, .int (xs 2), .int (xs 1), .ref 89, .int r]) (congrArg (fun z => Value.int z :: [.ref 1000000, .int (xs 2), .int (xs 1), .ref 89, .int r]) (by decide)) ?_
  refine a_ldX dL_law_754 (show vp_in 3 6 from by unfold vp_in; decide +kernel) ?_
  refine a_st (st2 := [.int (xs 3), .int (xs 2), .int (xs 1), .ref 89, .int r]) rfl ?_
  refine a_callV (As := [.int (xs 1), .int (xs 2), .int (xs 3)]) (st := [.int r]) (a := 89) (ci := 11) (bc := bc) (bs := bs) (mc := 0) (ms := 0) false dL_law_755 mw_X11_line rfl (Or.inl ⟨rfl, ml_L_93⟩) im_X11_line se_X11_line (by decide) (cm_l (cm_of hF) (by decide)) (cm_s (cm_of hF) (by decide) rfl) rfl (Nat.le_of_ble_eq_true rfl) (hr M1 hF) (fun v M2 hq => ?_)
  obtain ⟨rfl, -⟩ := hq
  exact a_icmp_eq 957 dL_law_758 (by decide) (fun _ => lw_end) (fun c => absurd rfl c)
set_option maxHeartbeats 4000000 in
theorem lw_c19 {xs : Nat → Int32} {bc bs : Nat} {M : Mem} (h : Cw 126 Lj134 fs42 gs31 M) : AW (6, xs) (RL, cL_law, 4, (some .boolean), false, true, 21) bc bs 763 [(3, .int 0), (2, .ref 89), (1, .ref 0), (0, .ref 1000000)] [] M (fun v _ => v = some (.int 1)) := by
  obtain ⟨r, hc, hr⟩ := pr_lineByte (6, xs) (xs 1) (xs 2) (xs 3)
  refine a_aload_n dL_law_763 rfl rfl ?_
  refine a_aload_n dL_law_764 rfl rfl ?_
  refine a_iload_n dL_law_765 rfl rfl ?_
  refine a_iconst (v := 1) dL_law_766 (by decide) ?_
  refine a_iadd dL_law_767 ?_
  refine a_st (st2 := [.int 1, .ref 1000000, .ref 0]) (congrArg (fun z => Value.int z :: [.ref 1000000, .ref 0]) (by decide)) ?_
  refine a_ldX dL_law_768 (show vp_in 1 6 from by unfold vp_in; decide +kernel) ?_
  refine a_st (st2 := [.int (xs 1), .ref 0]) rfl ?_
  refine a_aload_n dL_law_769 rfl rfl ?_
  refine a_iload_n dL_law_770 rfl rfl ?_
  refine a_iconst (v := 2) dL_law_771 (by decide) ?_
  refine a_iadd dL_law_772 ?_
  refine a_st (st2 := [.int 2, .ref 1000000, .int (xs 1), .ref 0]) (congrArg (fun z => Value.int z :: [.ref 1000000, .int (xs 1), .ref 0]) (by decide)) ?_
  refine a_ldX dL_law_773 (show vp_in 2 6 from by unfold vp_in; decide +kernel) ?_
  refine a_st (st2 := [.int (xs 2), .int (xs 1), .ref 0]) rfl ?_
  refine a_aload_n dL_law_774 rfl rfl ?_
  refine a_iload_n dL_law_775 rfl rfl ?_
  refine a_iconst (v := 3) dL_law_776 (by decide) ?_
  refine a_iadd dL_law_777 ?_
  refine a_st (st2 := [.int 3, .ref 1000000, .int (xs 2), .int (xs 1), .ref 0]) (congrArg (fun z => Value.int z :: [.ref 1000000, .int (xs 2), .int (xs 1), .ref 0]) (by decide)) ?_
  refine a_ldX dL_law_778 (show vp_in 3 6 from by unfold vp_in; decide +kernel) ?_
  refine a_st (st2 := [.int (xs 3), .int (xs 2), .int (xs 1), .ref 0]) rfl ?_
  refine a_callV (As := [.int (xs 1), .int (xs 2), .int (xs 3)]) (st := []) (a := 0) (ci := 10) (bc := bc) (bs := bs) (mc := 0) (ms := 0) false dL_law_779 mw_X10_lineByte rfl (Or.inl ⟨rfl, ml_L_94⟩) im_X10_lineByte se_X10_lineByte (by decide) (cw_l h (by decide)) (cw_s h (by decide) rfl) rfl (Nat.le_of_ble_eq_true rfl) (hc M h) (fun v M1 hq => ?_)
  obtain ⟨rfl, hF⟩ := hq
  show AW (6, xs) (RL, cL_law, 4, (some .boolean), false, true, 21) bc bs 782 _ [.int r] M1 _
  refine a_aload_n dL_law_782 rfl rfl ?_
  refine a_aload_n dL_law_783 rfl rfl ?_
  refine a_iload_n dL_law_784 rfl rfl ?_
  refine a_iconst (v := 1) dL_law_785 (by decide) ?_
  refine a_iadd dL_law_786 ?_
  refine a_st (st2 := [.int 1, .ref 1000000, .ref 89, .int r]) (congrArg (fun z => Value.int z :: [.ref 1000000, .ref 89, .int r]) (by decide)) ?_
  refine a_ldX dL_law_787 (show vp_in 1 6 from by unfold vp_in; decide +kernel) ?_
  refine a_st (st2 := [.int (xs 1), .ref 89, .int r]) rfl ?_
  refine a_aload_n dL_law_788 rfl rfl ?_
  refine a_iload_n dL_law_789 rfl rfl ?_
  refine a_iconst (v := 2) dL_law_790 (by decide) ?_
  refine a_iadd dL_law_791 ?_
  refine a_st (st2 := [.int 2, .ref 1000000, .int (xs 1), .ref 89, .int r]) (congrArg (fun z => Value.int z :: [.ref 1000000, .int (xs 1), .ref 89, .int r]) (by decide)) ?_
  refine a_ldX dL_law_792 (show vp_in 2 6 from by unfold vp_in; decide +kernel) ?_
  refine a_st (st2 := [.int (xs 2), .int (xs 1), .ref 89, .int r]) rfl ?_
  refine a_aload_n dL_law_793 rfl rfl ?_
  refine a_iload_n dL_law_794 rfl rfl ?_
  refine a_iconst (v := 3) dL_law_795 (by decide) ?_
  refine a_iadd dL_law_796 ?_
  refine a_st (st2 := [.int 3, .ref 1000000, .int (xs 2), .int (xs 1), .ref 89, .int r]) (congrArg (fun z => Value.int z :: [.ref 1000000, .int (xs 2), .int (xs 1), .ref 89, .int r]) (by decide)) ?_
  refine a_ldX dL_law_797 (show vp_in 3 6 from by unfold vp_in; decide +kernel) ?_
  refine a_st (st2 := [.int (xs 3), .int (xs 2), .int (xs 1), .ref 89, .int r]) rfl ?_
  refine a_callV (As := [.int (xs 1), .int (xs 2), .int (xs 3)]) (st := [.int r]) (a := 89) (ci := 11) (bc := bc) (bs := bs) (mc := 0) (ms := 0) false dL_law_798 mw_X11_lineByte rfl (Or.inl ⟨rfl, ml_L_97⟩) im_X11_lineByte se_X11_lineByte (by decide) (cm_l (cm_of hF) (by decide)) (cm_s (cm_of hF) (by decide) rfl) rfl (Nat.le_of_ble_eq_true rfl) (hr M1 hF) (fun v M2 hq => ?_)
  obtain ⟨rfl, -⟩ := hq
  exact a_icmp_eq 957 dL_law_801 (by decide) (fun _ => lw_end) (fun c => absurd rfl c)
set_option maxHeartbeats 4000000 in
theorem lw_c20 {xs : Nat → Int32} {bc bs : Nat} {M : Mem} (h : Cw 126 Lj134 fs42 gs31 M) : AW (6, xs) (RL, cL_law, 4, (some .boolean), false, true, 21) bc bs 806 [(3, .int 0), (2, .ref 89), (1, .ref 0), (0, .ref 1000000)] [] M (fun v _ => v = some (.int 1)) := by
  obtain ⟨r, hc, hr⟩ := pr_equal (6, xs) (xs 1) (xs 2)
  refine a_aload_n dL_law_806 rfl rfl ?_
  refine a_aload_n dL_law_807 rfl rfl ?_
  refine a_iload_n dL_law_808 rfl rfl ?_
  refine a_iconst (v := 1) dL_law_809 (by decide) ?_
  refine a_iadd dL_law_810 ?_
  refine a_st (st2 := [.int 1, .ref 1000000, .ref 0]) (congrArg (fun z => Value.int z :: [.ref 1000000, .ref 0]) (by decide)) ?_
  refine a_ldX dL_law_811 (show vp_in 1 6 from by unfold vp_in; decide +kernel) ?_
  refine a_st (st2 := [.int (xs 1), .ref 0]) rfl ?_
  refine a_aload_n dL_law_812 rfl rfl ?_
  refine a_iload_n dL_law_813 rfl rfl ?_
  refine a_iconst (v := 2) dL_law_814 (by decide) ?_
  refine a_iadd dL_law_815 ?_
  refine a_st (st2 := [.int 2, .ref 1000000, .int (xs 1), .ref 0]) (congrArg (fun z => Value.int z :: [.ref 1000000, .int (xs 1), .ref 0]) (by decide)) ?_
  refine a_ldX dL_law_816 (show vp_in 2 6 from by unfold vp_in; decide +kernel) ?_
  refine a_st (st2 := [.int (xs 2), .int (xs 1), .ref 0]) rfl ?_
  refine a_callV (As := [.int (xs 1), .int (xs 2)]) (st := []) (a := 0) (ci := 10) (bc := bc) (bs := bs) (mc := 0) (ms := 0) false dL_law_817 mw_X10_equal rfl (Or.inl ⟨rfl, ml_L_98⟩) im_X10_equal se_X10_equal (by decide) (cw_l h (by decide)) (cw_s h (by decide) rfl) rfl (Nat.le_of_ble_eq_true rfl) (hc M h) (fun v M1 hq => ?_)
  obtain ⟨rfl, hF⟩ := hq
  show AW (6, xs) (RL, cL_law, 4, (some .boolean), false, true, 21) bc bs 820 _ [.int r] M1 _
  refine a_aload_n dL_law_820 rfl rfl ?_
  refine a_aload_n dL_law_821 rfl rfl ?_
  refine a_iload_n dL_law_822 rfl rfl ?_
  refine a_iconst (v := 1) dL_law_823 (by decide) ?_
  refine a_iadd dL_law_824 ?_
  refine a_st (st2 := [.int 1, .ref 1000000, .ref 89, .int r]) (congrArg (fun z => Value.int z :: [.ref 1000000, .ref 89, .int r]) (by decide)) ?_
  refine a_ldX dL_law_825 (show vp_in 1 6 from by unfold vp_in; decide +kernel) ?_
  refine a_st (st2 := [.int (xs 1), .ref 89, .int r]) rfl ?_
  refine a_aload_n dL_law_826 rfl rfl ?_
  refine a_iload_n dL_law_827 rfl rfl ?_
  refine a_iconst (v := 2) dL_law_828 (by decide) ?_
  refine a_iadd dL_law_829 ?_
  refine a_st (st2 := [.int 2, .ref 1000000, .int (xs 1), .ref 89, .int r]) (congrArg (fun z => Value.int z :: [.ref 1000000, .int (xs 1), .ref 89, .int r]) (by decide)) ?_
  refine a_ldX dL_law_830 (show vp_in 2 6 from by unfold vp_in; decide +kernel) ?_
  refine a_st (st2 := [.int (xs 2), .int (xs 1), .ref 89, .int r]) rfl ?_
  refine a_callV (As := [.int (xs 1), .int (xs 2)]) (st := [.int r]) (a := 89) (ci := 11) (bc := bc) (bs := bs) (mc := 0) (ms := 0) false dL_law_831 mw_X11_equal rfl (Or.inl ⟨rfl, ml_L_101⟩) im_X11_equal se_X11_equal (by decide) (cm_l (cm_of hF) (by decide)) (cm_s (cm_of hF) (by decide) rfl) rfl (Nat.le_of_ble_eq_true rfl) (hr M1 hF) (fun v M2 hq => ?_)
  obtain ⟨rfl, -⟩ := hq
  exact a_icmp_eq 957 dL_law_834 (by decide) (fun _ => lw_end) (fun c => absurd rfl c)
set_option maxHeartbeats 4000000 in
theorem lw_c21 {xs : Nat → Int32} {bc bs : Nat} {M : Mem} (h : Cw 126 Lj134 fs42 gs31 M) : AW (6, xs) (RL, cL_law, 4, (some .boolean), false, true, 21) bc bs 839 [(3, .int 0), (2, .ref 89), (1, .ref 0), (0, .ref 1000000)] [] M (fun v _ => v = some (.int 1)) := by
  obtain ⟨r, hc, hr⟩ := pr_alike (6, xs) (xs 1) (xs 2)
  refine a_aload_n dL_law_839 rfl rfl ?_
  refine a_aload_n dL_law_840 rfl rfl ?_
  refine a_iload_n dL_law_841 rfl rfl ?_
  refine a_iconst (v := 1) dL_law_842 (by decide) ?_
  refine a_iadd dL_law_843 ?_
  refine a_st (st2 := [.int 1, .ref 1000000, .ref 0]) (congrArg (fun z => Value.int z :: [.ref 1000000, .ref 0]) (by decide)) ?_
  refine a_ldX dL_law_844 (show vp_in 1 6 from by unfold vp_in; decide +kernel) ?_
  refine a_st (st2 := [.int (xs 1), .ref 0]) rfl ?_
  refine a_aload_n dL_law_845 rfl rfl ?_
  refine a_iload_n dL_law_846 rfl rfl ?_
  refine a_iconst (v := 2) dL_law_847 (by decide) ?_
  refine a_iadd dL_law_848 ?_
  refine a_st (st2 := [.int 2, .ref 1000000, .int (xs 1), .ref 0]) (congrArg (fun z => Value.int z :: [.ref 1000000, .int (xs 1), .ref 0]) (by decide)) ?_
  refine a_ldX dL_law_849 (show vp_in 2 6 from by unfold vp_in; decide +kernel) ?_
  refine a_st (st2 := [.int (xs 2), .int (xs 1), .ref 0]) rfl ?_
  refine a_callV (As := [.int (xs 1), .int (xs 2)]) (st := []) (a := 0) (ci := 10) (bc := bc) (bs := bs) (mc := 0) (ms := 0) false dL_law_850 mw_X10_alike rfl (Or.inl ⟨rfl, ml_L_102⟩) im_X10_alike se_X10_alike (by decide) (cw_l h (by decide)) (cw_s h (by decide) rfl) rfl (Nat.le_of_ble_eq_true rfl) (hc M h) (fun v M1 hq => ?_)
  obtain ⟨rfl, hF⟩ := hq
  show AW (6, xs) (RL, cL_law, 4, (some .boolean), false, true, 21) bc bs 853 _ [.int r] M1 _
  refine a_aload_n dL_law_853 rfl rfl ?_
  refine a_aload_n dL_law_854 rfl rfl ?_
  refine a_iload_n dL_law_855 rfl rfl ?_
  refine a_iconst (v := 1) dL_law_856 (by decide) ?_
  refine a_iadd dL_law_857 ?_
  refine a_st (st2 := [.int 1, .ref 1000000, .ref 89, .int r]) (congrArg (fun z => Value.int z :: [.ref 1000000, .ref 89, .int r]) (by decide)) ?_
  refine a_ldX dL_law_858 (show vp_in 1 6 from by unfold vp_in; decide +kernel) ?_
  refine a_st (st2 := [.int (xs 1), .ref 89, .int r]) rfl ?_
  refine a_aload_n dL_law_859 rfl rfl ?_
  refine a_iload_n dL_law_860 rfl rfl ?_
  refine a_iconst (v := 2) dL_law_861 (by decide) ?_
  refine a_iadd dL_law_862 ?_
  refine a_st (st2 := [.int 2, .ref 1000000, .int (xs 1), .ref 89, .int r]) (congrArg (fun z => Value.int z :: [.ref 1000000, .int (xs 1), .ref 89, .int r]) (by decide)) ?_
  refine a_ldX dL_law_863 (show vp_in 2 6 from by unfold vp_in; decide +kernel) ?_
  refine a_st (st2 := [.int (xs 2), .int (xs 1), .ref 89, .int r]) rfl ?_
  refine a_callV (As := [.int (xs 1), .int (xs 2)]) (st := [.int r]) (a := 89) (ci := 11) (bc := bc) (bs := bs) (mc := 0) (ms := 0) false dL_law_864 mw_X11_alike rfl (Or.inl ⟨rfl, ml_L_105⟩) im_X11_alike se_X11_alike (by decide) (cm_l (cm_of hF) (by decide)) (cm_s (cm_of hF) (by decide) rfl) rfl (Nat.le_of_ble_eq_true rfl) (hr M1 hF) (fun v M2 hq => ?_)
  obtain ⟨rfl, -⟩ := hq
  exact a_icmp_eq 957 dL_law_867 (by decide) (fun _ => lw_end) (fun c => absurd rfl c)
set_option maxHeartbeats 4000000 in
theorem lw_c22 {xs : Nat → Int32} {bc bs : Nat} {M : Mem} (h : Cw 126 Lj134 fs42 gs31 M) : AW (6, xs) (RL, cL_law, 4, (some .boolean), false, true, 21) bc bs 872 [(3, .int 0), (2, .ref 89), (1, .ref 0), (0, .ref 1000000)] [] M (fun v _ => v = some (.int 1)) := by
  obtain ⟨r, hc, hr⟩ := pr_side (6, xs) (xs 1)
  refine a_aload_n dL_law_872 rfl rfl ?_
  refine a_aload_n dL_law_873 rfl rfl ?_
  refine a_iload_n dL_law_874 rfl rfl ?_
  refine a_iconst (v := 1) dL_law_875 (by decide) ?_
  refine a_iadd dL_law_876 ?_
  refine a_st (st2 := [.int 1, .ref 1000000, .ref 0]) (congrArg (fun z => Value.int z :: [.ref 1000000, .ref 0]) (by decide)) ?_
  refine a_ldX dL_law_877 (show vp_in 1 6 from by unfold vp_in; decide +kernel) ?_
  refine a_st (st2 := [.int (xs 1), .ref 0]) rfl ?_
  refine a_callV (As := [.int (xs 1)]) (st := []) (a := 0) (ci := 10) (bc := bc) (bs := bs) (mc := 0) (ms := 0) false dL_law_878 mw_X10_side rfl (Or.inl ⟨rfl, ml_L_106⟩) im_X10_side se_X10_side (by decide) (cw_l h (by decide)) (cw_s h (by decide) rfl) rfl (Nat.le_of_ble_eq_true rfl) (hc M h) (fun v M1 hq => ?_)
  obtain ⟨rfl, hF⟩ := hq
  show AW (6, xs) (RL, cL_law, 4, (some .boolean), false, true, 21) bc bs 881 _ [.int r] M1 _
  refine a_aload_n dL_law_881 rfl rfl ?_
  refine a_aload_n dL_law_882 rfl rfl ?_
  refine a_iload_n dL_law_883 rfl rfl ?_
  refine a_iconst (v := 1) dL_law_884 (by decide) ?_
  refine a_iadd dL_law_885 ?_
  refine a_st (st2 := [.int 1, .ref 1000000, .ref 89, .int r]) (congrArg (fun z => Value.int z :: [.ref 1000000, .ref 89, .int r]) (by decide)) ?_
  refine a_ldX dL_law_886 (show vp_in 1 6 from by unfold vp_in; decide +kernel) ?_
  refine a_st (st2 := [.int (xs 1), .ref 89, .int r]) rfl ?_
  refine a_callV (As := [.int (xs 1)]) (st := [.int r]) (a := 89) (ci := 11) (bc := bc) (bs := bs) (mc := 0) (ms := 0) false dL_law_887 mw_X11_side rfl (Or.inl ⟨rfl, ml_L_109⟩) im_X11_side se_X11_side (by decide) (cm_l (cm_of hF) (by decide)) (cm_s (cm_of hF) (by decide) rfl) rfl (Nat.le_of_ble_eq_true rfl) (hr M1 hF) (fun v M2 hq => ?_)
  obtain ⟨rfl, -⟩ := hq
  exact a_icmp_eq 957 dL_law_890 (by decide) (fun _ => lw_end) (fun c => absurd rfl c)
set_option maxHeartbeats 4000000 in
theorem lw_c23 {xs : Nat → Int32} {bc bs : Nat} {M : Mem} (h : Cw 126 Lj134 fs42 gs31 M) : AW (6, xs) (RL, cL_law, 4, (some .boolean), false, true, 21) bc bs 895 [(3, .int 0), (2, .ref 89), (1, .ref 0), (0, .ref 1000000)] [] M (fun v _ => v = some (.int 1)) := by
  obtain ⟨r, hc, hr⟩ := pr_provable (6, xs) 
  refine a_aload_n dL_law_895 rfl rfl ?_
  refine a_callV (As := []) (st := []) (a := 0) (ci := 10) (bc := bc) (bs := bs) (mc := 0) (ms := 0) false dL_law_896 mw_X10_provable rfl (Or.inl ⟨rfl, ml_L_110⟩) im_X10_provable se_X10_provable (by decide) (cw_l h (by decide)) (cw_s h (by decide) rfl) rfl (Nat.le_of_ble_eq_true rfl) (hc M h) (fun v M1 hq => ?_)
  obtain ⟨rfl, hF⟩ := hq
  show AW (6, xs) (RL, cL_law, 4, (some .boolean), false, true, 21) bc bs 899 _ [.int r] M1 _
  refine a_aload_n dL_law_899 rfl rfl ?_
  refine a_callV (As := []) (st := [.int r]) (a := 89) (ci := 11) (bc := bc) (bs := bs) (mc := 0) (ms := 0) false dL_law_900 mw_X11_provable rfl (Or.inl ⟨rfl, ml_L_114⟩) im_X11_provable se_X11_provable (by decide) (cm_l (cm_of hF) (by decide)) (cm_s (cm_of hF) (by decide) rfl) rfl (Nat.le_of_ble_eq_true rfl) (hr M1 hF) (fun v M2 hq => ?_)
  obtain ⟨rfl, -⟩ := hq
  exact a_icmp_eq 957 dL_law_903 (by decide) (fun _ => lw_end) (fun c => absurd rfl c)
set_option maxHeartbeats 4000000 in
theorem lw_c24 {xs : Nat → Int32} {bc bs : Nat} {M : Mem} (h : Cw 126 Lj134 fs42 gs31 M) : AW (6, xs) (RL, cL_law, 4, (some .boolean), false, true, 21) bc bs 908 [(3, .int 0), (2, .ref 89), (1, .ref 0), (0, .ref 1000000)] [] M (fun v _ => v = some (.int 1)) := by
  obtain ⟨r, hc, hr⟩ := pr_bySide (6, xs) (xs 1)
  refine a_aload_n dL_law_908 rfl rfl ?_
  refine a_aload_n dL_law_909 rfl rfl ?_
  refine a_iload_n dL_law_910 rfl rfl ?_
  refine a_iconst (v := 1) dL_law_911 (by decide) ?_
  refine a_iadd dL_law_912 ?_
  refine a_st (st2 := [.int 1, .ref 1000000, .ref 0]) (congrArg (fun z => Value.int z :: [.ref 1000000, .ref 0]) (by decide)) ?_
  refine a_ldX dL_law_913 (show vp_in 1 6 from by unfold vp_in; decide +kernel) ?_
  refine a_st (st2 := [.int (xs 1), .ref 0]) rfl ?_
  refine a_callV (As := [.int (xs 1)]) (st := []) (a := 0) (ci := 10) (bc := bc) (bs := bs) (mc := 0) (ms := 0) false dL_law_914 mw_X10_bySide rfl (Or.inl ⟨rfl, ml_L_115⟩) im_X10_bySide se_X10_bySide (by decide) (cw_l h (by decide)) (cw_s h (by decide) rfl) rfl (Nat.le_of_ble_eq_true rfl) (hc M h) (fun v M1 hq => ?_)
  obtain ⟨rfl, hF⟩ := hq
  show AW (6, xs) (RL, cL_law, 4, (some .boolean), false, true, 21) bc bs 917 _ [.int r] M1 _
  refine a_aload_n dL_law_917 rfl rfl ?_
  refine a_aload_n dL_law_918 rfl rfl ?_
  refine a_iload_n dL_law_919 rfl rfl ?_
  refine a_iconst (v := 1) dL_law_920 (by decide) ?_
  refine a_iadd dL_law_921 ?_
  refine a_st (st2 := [.int 1, .ref 1000000, .ref 89, .int r]) (congrArg (fun z => Value.int z :: [.ref 1000000, .ref 89, .int r]) (by decide)) ?_
  refine a_ldX dL_law_922 (show vp_in 1 6 from by unfold vp_in; decide +kernel) ?_
  refine a_st (st2 := [.int (xs 1), .ref 89, .int r]) rfl ?_
  refine a_callV (As := [.int (xs 1)]) (st := [.int r]) (a := 89) (ci := 11) (bc := bc) (bs := bs) (mc := 0) (ms := 0) false dL_law_923 mw_X11_bySide rfl (Or.inl ⟨rfl, ml_L_118⟩) im_X11_bySide se_X11_bySide (by decide) (cm_l (cm_of hF) (by decide)) (cm_s (cm_of hF) (by decide) rfl) rfl (Nat.le_of_ble_eq_true rfl) (hr M1 hF) (fun v M2 hq => ?_)
  obtain ⟨rfl, -⟩ := hq
  exact a_icmp_eq 957 dL_law_926 (by decide) (fun _ => lw_end) (fun c => absurd rfl c)
set_option maxHeartbeats 4000000 in
theorem lw_c25 {xs : Nat → Int32} {bc bs : Nat} {M : Mem} (h : Cw 126 Lj134 fs42 gs31 M) : AW (6, xs) (RL, cL_law, 4, (some .boolean), false, true, 21) bc bs 931 [(3, .int 0), (2, .ref 89), (1, .ref 0), (0, .ref 1000000)] [] M (fun v _ => v = some (.int 1)) := by
  obtain ⟨r, hc, hr⟩ := pr_classical (6, xs) 
  refine a_aload_n dL_law_931 rfl rfl ?_
  refine a_callV (As := []) (st := []) (a := 0) (ci := 10) (bc := bc) (bs := bs) (mc := 0) (ms := 0) false dL_law_932 mw_X10_classical rfl (Or.inl ⟨rfl, ml_L_119⟩) im_X10_classical se_X10_classical (by decide) (cw_l h (by decide)) (cw_s h (by decide) rfl) rfl (Nat.le_of_ble_eq_true rfl) (hc M h) (fun v M1 hq => ?_)
  obtain ⟨rfl, hF⟩ := hq
  show AW (6, xs) (RL, cL_law, 4, (some .boolean), false, true, 21) bc bs 935 _ [.int r] M1 _
  refine a_aload_n dL_law_935 rfl rfl ?_
  refine a_callV (As := []) (st := [.int r]) (a := 89) (ci := 11) (bc := bc) (bs := bs) (mc := 0) (ms := 0) false dL_law_936 mw_X11_classical rfl (Or.inl ⟨rfl, ml_L_122⟩) im_X11_classical se_X11_classical (by decide) (cm_l (cm_of hF) (by decide)) (cm_s (cm_of hF) (by decide) rfl) rfl (Nat.le_of_ble_eq_true rfl) (hr M1 hF) (fun v M2 hq => ?_)
  obtain ⟨rfl, -⟩ := hq
  exact a_icmp_eq 957 dL_law_939 (by decide) (fun _ => lw_end) (fun c => absurd rfl c)
set_option maxHeartbeats 4000000 in
theorem lw_c26 {xs : Nat → Int32} {bc bs : Nat} {M : Mem} (h : Cw 126 Lj134 fs42 gs31 M) : AW (6, xs) (RL, cL_law, 4, (some .boolean), false, true, 21) bc bs 944 [(3, .int 0), (2, .ref 89), (1, .ref 0), (0, .ref 1000000)] [] M (fun v _ => v = some (.int 1)) := by
  obtain ⟨r, hc, hr⟩ := pr_against (6, xs) 
  refine a_aload_n dL_law_944 rfl rfl ?_
  refine a_callV (As := []) (st := []) (a := 0) (ci := 10) (bc := bc) (bs := bs) (mc := 0) (ms := 0) false dL_law_945 mw_X10_against rfl (Or.inl ⟨rfl, ml_L_123⟩) im_X10_against se_X10_against (by decide) (cw_l h (by decide)) (cw_s h (by decide) rfl) rfl (Nat.le_of_ble_eq_true rfl) (hc M h) (fun v M1 hq => ?_)
  obtain ⟨rfl, hF⟩ := hq
  show AW (6, xs) (RL, cL_law, 4, (some .boolean), false, true, 21) bc bs 948 _ [.int r] M1 _
  refine a_aload_n dL_law_948 rfl rfl ?_
  refine a_callV (As := []) (st := [.int r]) (a := 89) (ci := 11) (bc := bc) (bs := bs) (mc := 0) (ms := 0) false dL_law_949 mw_X11_against rfl (Or.inl ⟨rfl, ml_L_126⟩) im_X11_against se_X11_against (by decide) (cm_l (cm_of hF) (by decide)) (cm_s (cm_of hF) (by decide) rfl) rfl (Nat.le_of_ble_eq_true rfl) (hr M1 hF) (fun v M2 hq => ?_)
  obtain ⟨rfl, -⟩ := hq
  exact a_icmp_eq 957 dL_law_952 (by decide) (fun _ => lw_end) (fun c => absurd rfl c)
set_option maxHeartbeats 4000000 in
theorem lw_head {L : Nat} {xs : Nat → Int32} (hL : L ≤ 6) {bc bs : Nat} {M : Mem} (h : Cw 126 Lj134 fs42 gs31 M) : AW (L, xs) (RL, cL_law, 4, (some .boolean), false, true, 21) bc bs 18 [(3, .int 0), (2, .ref 89), (1, .ref 0), (0, .ref 1000000)] [] M (fun v _ => v = some (.int 1)) := by
  refine a_iload_n dL_law_18 rfl rfl ?_
  refine a_aload_n dL_law_19 rfl rfl ?_
  refine a_lenX dL_law_20 ?_
  refine a_bipush (v := 6) dL_law_21 (by decide) ?_
  refine a_isub dL_law_23 ?_
  by_cases h6 : L = 6
  · subst h6
    refine a_icmp_gt 963 dL_law_24 (by decide) (fun c => absurd c (show ¬ (Int32.ofNat 6 - 6 < 0) by decide)) (fun _ => ?_)
    refine a_aload_n dL_law_27 rfl rfl ?_
    refine a_iload_n dL_law_28 rfl rfl ?_
    refine a_ldX dL_law_29 (show vp_in 0 6 from by unfold vp_in; decide +kernel) ?_
    refine a_bipush (v := 31) dL_law_30 (by decide) ?_
    refine a_iand dL_law_32 ?_
    obtain ⟨j, hj, ej⟩ := pk_andE (xs 0) (m := 31) 5 (by decide)
    refine a_st (st2 := [.int (nI j)]) (congrArg (fun z => [Value.int z]) ej) ?_
    match j, hj with
    | 0, _ => exact a_tableIn 156 dL_law_33 (by decide +kernel) (by decide +kernel) (by first | rfl | decide +kernel) (by decide) (lw_c0 h)
    | 1, _ => exact a_tableIn 219 dL_law_33 (by decide +kernel) (by decide +kernel) (by first | rfl | decide +kernel) (by decide) (lw_c1 h)
    | 2, _ => exact a_tableIn 242 dL_law_33 (by decide +kernel) (by decide +kernel) (by first | rfl | decide +kernel) (by decide) (lw_c2 h)
    | 3, _ => exact a_tableIn 265 dL_law_33 (by decide +kernel) (by decide +kernel) (by first | rfl | decide +kernel) (by decide) (lw_c3 h)
    | 4, _ => exact a_tableIn 298 dL_law_33 (by decide +kernel) (by decide +kernel) (by first | rfl | decide +kernel) (by decide) (lw_c4 h)
    | 5, _ => exact a_tableIn 321 dL_law_33 (by decide +kernel) (by decide +kernel) (by first | rfl | decide +kernel) (by decide) (lw_c5 h)
    | 6, _ => exact a_tableIn 344 dL_law_33 (by decide +kernel) (by decide +kernel) (by first | rfl | decide +kernel) (by decide) (lw_c6 h)
    | 7, _ => exact a_tableIn 367 dL_law_33 (by decide +kernel) (by decide +kernel) (by first | rfl | decide +kernel) (by decide) (lw_c7 h)
    | 8, _ => exact a_tableIn 410 dL_law_33 (by decide +kernel) (by decide +kernel) (by first | rfl | decide +kernel) (by decide) (lw_c8 h)
    | 9, _ => exact a_tableIn 433 dL_law_33 (by decide +kernel) (by decide +kernel) (by first | rfl | decide +kernel) (by decide) (lw_c9 h)
    | 10, _ => exact a_tableIn 476 dL_law_33 (by decide +kernel) (by decide +kernel) (by first | rfl | decide +kernel) (by decide) (lw_c10 h)
    | 11, _ => exact a_tableIn 509 dL_law_33 (by decide +kernel) (by decide +kernel) (by first | rfl | decide +kernel) (by decide) (lw_c11 h)
    | 12, _ => exact a_tableIn 542 dL_law_33 (by decide +kernel) (by decide +kernel) (by first | rfl | decide +kernel) (by decide) (lw_c12 h)
    | 13, _ => exact a_tableIn 575 dL_law_33 (by decide +kernel) (by decide +kernel) (by first | rfl | decide +kernel) (by decide) (lw_c13 h)
    | 14, _ => exact a_tableIn 598 dL_law_33 (by decide +kernel) (by decide +kernel) (by first | rfl | decide +kernel) (by decide) (lw_c14 h)
    | 15, _ => exact a_tableIn 621 dL_law_33 (by decide +kernel) (by decide +kernel) (by first | rfl | decide +kernel) (by decide) (lw_c15 h)
    | 16, _ => exact a_tableIn 644 dL_law_33 (by decide +kernel) (by decide +kernel) (by first | rfl | decide +kernel) (by decide) (lw_c16 h)
    | 17, _ => exact a_tableIn 697 dL_law_33 (by decide +kernel) (by decide +kernel) (by first | rfl | decide +kernel) (by decide) (lw_c17 h)
    | 18, _ => exact a_tableIn 720 dL_law_33 (by decide +kernel) (by decide +kernel) (by first | rfl | decide +kernel) (by decide) (lw_c18 h)
    | 19, _ => exact a_tableIn 763 dL_law_33 (by decide +kernel) (by decide +kernel) (by first | rfl | decide +kernel) (by decide) (lw_c19 h)
    | 20, _ => exact a_tableIn 806 dL_law_33 (by decide +kernel) (by decide +kernel) (by first | rfl | decide +kernel) (by decide) (lw_c20 h)
    | 21, _ => exact a_tableIn 839 dL_law_33 (by decide +kernel) (by decide +kernel) (by first | rfl | decide +kernel) (by decide) (lw_c21 h)
    | 22, _ => exact a_tableIn 872 dL_law_33 (by decide +kernel) (by decide +kernel) (by first | rfl | decide +kernel) (by decide) (lw_c22 h)
    | 23, _ => exact a_tableIn 895 dL_law_33 (by decide +kernel) (by decide +kernel) (by first | rfl | decide +kernel) (by decide) (lw_c23 h)
    | 24, _ => exact a_tableIn 908 dL_law_33 (by decide +kernel) (by decide +kernel) (by first | rfl | decide +kernel) (by decide) (lw_c24 h)
    | 25, _ => exact a_tableIn 931 dL_law_33 (by decide +kernel) (by decide +kernel) (by first | rfl | decide +kernel) (by decide) (lw_c25 h)
    | 26, _ => exact a_tableIn 944 dL_law_33 (by decide +kernel) (by decide +kernel) (by first | rfl | decide +kernel) (by decide) (lw_c26 h)
    | 27, _ => exact a_tableOut 957 dL_law_33 (by decide +kernel) (by decide) lw_end
    | 28, _ => exact a_tableOut 957 dL_law_33 (by decide +kernel) (by decide) lw_end
    | 29, _ => exact a_tableOut 957 dL_law_33 (by decide +kernel) (by decide) lw_end
    | 30, _ => exact a_tableOut 957 dL_law_33 (by decide +kernel) (by decide) lw_end
    | 31, _ => exact a_tableOut 957 dL_law_33 (by decide +kernel) (by decide) lw_end
    | j + 32, hj => exact absurd hj (by omega)
  · have hlt : Int32.ofNat L - 6 < 0 := (show ∀ l, l < 6 → Int32.ofNat l - 6 < 0 by decide +kernel) L (by omega)
    refine a_icmp_gt 963 dL_law_24 (by decide) (fun _ => ?_) (fun c => absurd hlt c)
    refine a_iconst (v := 1) dL_law_963 (by decide) ?_
    exact a_zret dL_law_964 rfl (by decide) rfl
set_option maxHeartbeats 4000000 in
/-- the law's body over the abstract machine, from its entry -/
theorem lw_aw {L : Nat} {xs : Nat → Int32} (hL : L ≤ 6) {M : Mem} (h0 : Cw 0 Lj0 fs0 gs0 M) : AW (L, xs) (RL, cL_law, 4, (some .boolean), false, true, 21) 600000 7302250 0 [(0, .ref 1000000)] [] M (fun v _ => v = some (.int 1)) := by
  refine a_new (ci := 10) (bc := 599999) (bs := 7302232) dL_law_0 rfl (by decide) cl_L_7 it_X10 ini_X10 (by rw [h0.1]; decide) ?_
  rw [h0.1]
  have h1 : Cw 1 Lj0 fs0 gs0 (nO M 10) := cw_nO h0 rfl
  generalize (nO M 10) = M1 at h1 ⊢
  refine a_dup dL_law_3 rfl ?_
  refine a_callI (As := []) (st := [.ref 0]) (a := 0) (bc := 599911) (bs := 7246092) (mc := 88) (ms := 56140) false dL_law_4 mw_X10_init rfl (Or.inl ⟨rfl, ml_L_9⟩) im_X10_init rfl (cw_l h1 (by decide)) rfl (Nat.le_of_ble_eq_true rfl) (b_X10_init_0_1 (fr := 14) h1) (fun v M2 hq => ?_)
  obtain ⟨rfl, h2⟩ := hq
  refine a_astore_n dL_law_7 rfl (Nat.le_of_ble_eq_true rfl) (lv2 := [(1, .ref 0), (0, .ref 1000000)]) rfl ?_
  refine a_new (ci := 11) (bc := 599910) (bs := 7246031) dL_law_8 rfl (by decide) cl_L_10 it_X11 ini_X11 (by rw [h2.1]; decide) ?_
  rw [h2.1]
  have h3 : Cw 90 Lj98 fs32 gs31 (nO M2 11) := cw_nO h2 rfl
  generalize (nO M2 11) = M3 at h3 ⊢
  refine a_dup dL_law_11 rfl ?_
  refine a_callI (As := []) (st := [.ref 89]) (a := 89) (bc := 599874) (bs := 7092851) (mc := 36) (ms := 153180) false dL_law_12 mw_X11_init rfl (Or.inl ⟨rfl, ml_L_12⟩) im_X11_init rfl (cw_l h3 (by decide)) rfl (Nat.le_of_ble_eq_true rfl) (b_X11_init_89_90 (fr := 14) h3) (fun v M4 hq => ?_)
  obtain ⟨rfl, h4⟩ := hq
  refine a_astore_n dL_law_15 rfl (Nat.le_of_ble_eq_true rfl) (lv2 := [(2, .ref 89), (1, .ref 0), (0, .ref 1000000)]) rfl ?_
  refine a_iconst (v := 0) dL_law_16 (by decide) ?_
  refine a_istore_n dL_law_17 rfl (Nat.le_of_ble_eq_true rfl) (lv2 := [(3, .int 0), (2, .ref 89), (1, .ref 0), (0, .ref 1000000)]) rfl ?_
  exact lw_head hL h4
