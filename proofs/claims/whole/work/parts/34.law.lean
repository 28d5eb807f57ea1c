/-! THE LAW on a script of at most 3072 numbers, out of an invariant over the cells -/
def Pr2 (P : Mem → Prop) (f g : Mem → Option (Int32 × Mem)) (M : Mem) : Prop := ∃ r M1 M2, f M = some (r, M1) ∧ fO M1 89 11 ∧ g M1 = some (r, M2) ∧ P M2
def Good (P : Nat → Mem → Prop) : Prop := ∀ k M, k < 512 → P k M → fO M 0 10 ∧ P (k + 1) M ∧
  (∀ a b c d e : Int32, Pr2 (P (k + 1)) (f_X10_feed 2047 0 a b c d e) (f_X11_feed 2047 89 a b c d e) M) ∧
  (∀ a : Int32, Pr2 (P (k + 1)) (f_X10_hypotheses 2047 0 a) (f_X11_hypotheses 2047 89 a) M) ∧
  (∀ a : Int32, Pr2 (P (k + 1)) (f_X10_goal 2047 0 a) (f_X11_goal 2047 89 a) M) ∧
  (∀ a b : Int32, Pr2 (P (k + 1)) (f_X10_proof 2047 0 a b) (f_X11_proof 2047 89 a b) M) ∧
  (∀ a : Int32, Pr2 (P (k + 1)) (f_X10_fault 2047 0 a) (f_X11_fault 2047 89 a) M) ∧
  (∀ a : Int32, Pr2 (P (k + 1)) (f_X10_drop 2047 0 a) (f_X11_drop 2047 89 a) M) ∧
  (∀ a : Int32, Pr2 (P (k + 1)) (f_X10_count 2047 0 a) (f_X11_count 2047 89 a) M) ∧
  (∀ a b c : Int32, Pr2 (P (k + 1)) (f_X10_hypothesis 2047 0 a b c) (f_X11_hypothesis 2047 89 a b c) M) ∧
  (∀ a : Int32, Pr2 (P (k + 1)) (f_X10_goalByte 2047 0 a) (f_X11_goalByte 2047 89 a) M) ∧
  (∀ a b c : Int32, Pr2 (P (k + 1)) (f_X10_spell 2047 0 a b c) (f_X11_spell 2047 89 a b c) M) ∧
  (∀ a b : Int32, Pr2 (P (k + 1)) (f_X10_length 2047 0 a b) (f_X11_length 2047 89 a b) M) ∧
  (∀ a b : Int32, Pr2 (P (k + 1)) (f_X10_size 2047 0 a b) (f_X11_size 2047 89 a b) M) ∧
  (∀ a b : Int32, Pr2 (P (k + 1)) (f_X10_redexes 2047 0 a b) (f_X11_redexes 2047 89 a b) M) ∧
  (∀ a : Int32, Pr2 (P (k + 1)) (f_X10_step 2047 0 a) (f_X11_step 2047 89 a) M) ∧
  (∀ a : Int32, Pr2 (P (k + 1)) (f_X10_normal 2047 0 a) (f_X11_normal 2047 89 a) M) ∧
  (∀ a : Int32, Pr2 (P (k + 1)) (f_X10_trace 2047 0 a) (f_X11_trace 2047 89 a) M) ∧
  (∀ a b c d : Int32, Pr2 (P (k + 1)) (f_X10_cut 2047 0 a b c d) (f_X11_cut 2047 89 a b c d) M) ∧
  (∀ a : Int32, Pr2 (P (k + 1)) (f_X10_lines 2047 0 a) (f_X11_lines 2047 89 a) M) ∧
  (∀ a b c : Int32, Pr2 (P (k + 1)) (f_X10_line 2047 0 a b c) (f_X11_line 2047 89 a b c) M) ∧
  (∀ a b c : Int32, Pr2 (P (k + 1)) (f_X10_lineByte 2047 0 a b c) (f_X11_lineByte 2047 89 a b c) M) ∧
  (∀ a b : Int32, Pr2 (P (k + 1)) (f_X10_equal 2047 0 a b) (f_X11_equal 2047 89 a b) M) ∧
  (∀ a b : Int32, Pr2 (P (k + 1)) (f_X10_alike 2047 0 a b) (f_X11_alike 2047 89 a b) M) ∧
  (∀ a : Int32, Pr2 (P (k + 1)) (f_X10_side 2047 0 a) (f_X11_side 2047 89 a) M) ∧
  (Pr2 (P (k + 1)) (f_X10_provable 2047 0 ) (f_X11_provable 2047 89 ) M) ∧
  (∀ a : Int32, Pr2 (P (k + 1)) (f_X10_bySide 2047 0 a) (f_X11_bySide 2047 89 a) M) ∧
  (Pr2 (P (k + 1)) (f_X10_classical 2047 0 ) (f_X11_classical 2047 89 ) M) ∧
  (Pr2 (P (k + 1)) (f_X10_against 2047 0 ) (f_X11_against 2047 89 ) M)
theorem aw_wk {X : Nat × (Nat → Int32)} {B : Bx} {bc bs pc : Nat} {lv : List (Nat × Value)} {st : List Value} {M : Mem} {Q : Option Value → Mem → Prop} (h : AW X B 0 0 pc lv st M Q) : AW X B bc bs pc lv st M Q := by
  intro p l e R s m args below meth c h0 sp cy D H locs ls cells slots mc ms F Y
  exact h _ _ _ _ _ _ _ _ _ _ _ _ _ _ _ _ _ _ _ _ _ F ⟨Y.1, Y.2.1, Y.2.2.1, Y.2.2.2.1, Y.2.2.2.2.1, by have := Y.2.2.2.2.2.1; omega, by have := Y.2.2.2.2.2.2.1; omega, Y.2.2.2.2.2.2.2.1, Y.2.2.2.2.2.2.2.2⟩
theorem of_toInt {k : Nat} (h : k < 2147483648) : (Int32.ofNat k).toInt = (k : Int) := nI_toInt (n := k) (by omega)
theorem vp_of {k L : Nat} (h : k < L) (hL : L ≤ 3072) : vp_in (Int32.ofNat k) L := nI_in (c := k) h (by omega)
theorem ofn_add (k j : Nat) : Int32.ofNat k + Int32.ofNat j = Int32.ofNat (k + j) := (Int32.ofNat_add k j).symm
set_option maxHeartbeats 4000000 in
theorem lg_c0 {L i : Nat} {xs : Nat → Int32} {M M1 M2 : Mem} {r : Int32} {Q : Option Value → Mem → Prop} (h5 : ∀ j : Nat, j < 6 → vp_in (Int32.ofNat i + Int32.ofNat j) L) (h10 : fO M 0 10) (e1 : f_X10_feed 2047 0 (xs (Int32.ofNat i + 1).toNatClampNeg) (xs (Int32.ofNat i + 2).toNatClampNeg) (xs (Int32.ofNat i + 3).toNatClampNeg) (xs (Int32.ofNat i + 4).toNatClampNeg) (xs (Int32.ofNat i + 5).toNatClampNeg) M = some (r, M1)) (h11 : fO M1 89 11) (e2 : f_X11_feed 2047 89 (xs (Int32.ofNat i + 1).toNatClampNeg) (xs (Int32.ofNat i + 2).toNatClampNeg) (xs (Int32.ofNat i + 3).toNatClampNeg) (xs (Int32.ofNat i + 4).toNatClampNeg) (xs (Int32.ofNat i + 5).toNatClampNeg) M1 = some (r, M2)) (kk : AW (L, xs) (RL, cL_law, 4, (some .boolean), false, true, 2048) 0 0 957 [(3, .int (Int32.ofNat i)), (2, .ref 89), (1, .ref 0), (0, .ref 1000000)] [] M2 Q) : AW (L, xs) (RL, cL_law, 4, (some .boolean), false, true, 2048) 0 0 156 [(3, .int (Int32.ofNat i)), (2, .ref 89), (1, .ref 0), (0, .ref 1000000)] [] M Q := by
  refine a_aload_n dL_law_156 rfl rfl ?_
  refine a_aload_n dL_law_157 rfl rfl ?_
  refine a_iload_n dL_law_158 rfl rfl ?_
  refine a_iconst (v := 1) dL_law_159 (by decide) ?_
  refine a_iadd dL_law_160 ?_
  refine a_ldX dL_law_161 (h5 1 (by decide)) ?_
  refine a_aload_n dL_law_162 rfl rfl ?_
  refine a_iload_n dL_law_163 rfl rfl ?_
  refine a_iconst (v := 2) dL_law_164 (by decide) ?_
  refine a_iadd dL_law_165 ?_
  refine a_ldX dL_law_166 (h5 2 (by decide)) ?_
  refine a_aload_n dL_law_167 rfl rfl ?_
  refine a_iload_n dL_law_168 rfl rfl ?_
  refine a_iconst (v := 3) dL_law_169 (by decide) ?_
  refine a_iadd dL_law_170 ?_
  refine a_ldX dL_law_171 (h5 3 (by decide)) ?_
  refine a_aload_n dL_law_172 rfl rfl ?_
  refine a_iload_n dL_law_173 rfl rfl ?_
  refine a_iconst (v := 4) dL_law_174 (by decide) ?_
  refine a_iadd dL_law_175 ?_
  refine a_ldX dL_law_176 (h5 4 (by decide)) ?_
  refine a_aload_n dL_law_177 rfl rfl ?_
  refine a_iload_n dL_law_178 rfl rfl ?_
  refine a_iconst (v := 5) dL_law_179 (by decide) ?_
  refine a_iadd dL_law_180 ?_
  refine a_ldX dL_law_181 (h5 5 (by decide)) ?_
  refine e_callV (As := [.int (xs (Int32.ofNat i + 1).toNatClampNeg), .int (xs (Int32.ofNat i + 2).toNatClampNeg), .int (xs (Int32.ofNat i + 3).toNatClampNeg), .int (xs (Int32.ofNat i + 4).toNatClampNeg), .int (xs (Int32.ofNat i + 5).toNatClampNeg)]) (st := []) (a := 0) (ci := 10) false dL_law_182 mw_X10_feed (Or.inl ⟨rfl, ml_L_13⟩) im_X10_feed se_X10_feed (by decide) h10.1 h10.2 rfl (Nat.le_of_ble_eq_true rfl) rfl (s_X10_feed e1) ?_
  refine a_aload_n dL_law_185 rfl rfl ?_
  refine a_aload_n dL_law_186 rfl rfl ?_
  refine a_iload_n dL_law_187 rfl rfl ?_
  refine a_iconst (v := 1) dL_law_188 (by decide) ?_
  refine a_iadd dL_law_189 ?_
  refine a_ldX dL_law_190 (h5 1 (by decide)) ?_
  refine a_aload_n dL_law_191 rfl rfl ?_
  refine a_iload_n dL_law_192 rfl rfl ?_
  refine a_iconst (v := 2) dL_law_193 (by decide) ?_
  refine a_iadd dL_law_194 ?_
  refine a_ldX dL_law_195 (h5 2 (by decide)) ?_
  refine a_aload_n dL_law_196 rfl rfl ?_
  refine a_iload_n dL_law_197 rfl rfl ?_
  refine a_iconst (v := 3) dL_law_198 (by decide) ?_
  refine a_iadd dL_law_199 ?_
  refine a_ldX dL_law_200 (h5 3 (by decide)) ?_
  refine a_aload_n dL_law_201 rfl rfl ?_
  refine a_iload_n dL_law_202 rfl rfl ?_
  refine a_iconst (v := 4) dL_law_203 (by decide) ?_
  refine a_iadd dL_law_204 ?_
  refine a_ldX dL_law_205 (h5 4 (by decide)) ?_
  refine a_aload_n dL_law_206 rfl rfl ?_
  refine a_iload_n dL_law_207 rfl rfl ?_
  refine a_iconst (v := 5) dL_law_208 (by decide) ?_
  refine a_iadd dL_law_209 ?_
  refine a_ldX dL_law_210 (h5 5 (by decide)) ?_
  refine e_callV (As := [.int (xs (Int32.ofNat i + 1).toNatClampNeg), .int (xs (Int32.ofNat i + 2).toNatClampNeg), .int (xs (Int32.ofNat i + 3).toNatClampNeg), .int (xs (Int32.ofNat i + 4).toNatClampNeg), .int (xs (Int32.ofNat i + 5).toNatClampNeg)]) (st := [.int r]) (a := 89) (ci := 11) false dL_law_211 mw_X11_feed (Or.inl ⟨rfl, ml_L_17⟩) im_X11_feed se_X11_feed (by decide) h11.1 h11.2 rfl (Nat.le_of_ble_eq_true rfl) rfl (s_X11_feed e2) ?_
  exact a_icmp_eq 957 dL_law_214 (by decide) (fun _ => kk) (fun c => absurd rfl c)
set_option maxHeartbeats 4000000 in
theorem lg_c1 {L i : Nat} {xs : Nat → Int32} {M M1 M2 : Mem} {r : Int32} {Q : Option Value → Mem → Prop} (h5 : ∀ j : Nat, j < 6 → vp_in (Int32.ofNat i + Int32.ofNat j) L) (h10 : fO M 0 10) (e1 : f_X10_hypotheses 2047 0 (xs (Int32.ofNat i + 1).toNatClampNeg) M = some (r, M1)) (h11 : fO M1 89 11) (e2 : f_X11_hypotheses 2047 89 (xs (Int32.ofNat i + 1).toNatClampNeg) M1 = some (r, M2)) (kk : AW (L, xs) (RL, cL_law, 4, (some .boolean), false, true, 2048) 0 0 957 [(3, .int (Int32.ofNat i)), (2, .ref 89), (1, .ref 0), (0, .ref 1000000)] [] M2 Q) : AW (L, xs) (RL, cL_law, 4, (some .boolean), false, true, 2048) 0 0 219 [(3, .int (Int32.ofNat i)), (2, .ref 89), (1, .ref 0), (0, .ref 1000000)] [] M Q := by
  refine a_aload_n dL_law_219 rfl rfl ?_
  refine a_aload_n dL_law_220 rfl rfl ?_
  refine a_iload_n dL_law_221 rfl rfl ?_
  refine a_iconst (v := 1) dL_law_222 (by decide) ?_
  refine a_iadd dL_law_223 ?_
  refine a_ldX dL_law_224 (h5 1 (by decide)) ?_
  refine e_callV (As := [.int (xs (Int32.ofNat i + 1).toNatClampNeg)]) (st := []) (a := 0) (ci := 10) false dL_law_225 mw_X10_hypotheses (Or.inl ⟨rfl, ml_L_18⟩) im_X10_hypotheses se_X10_hypotheses (by decide) h10.1 h10.2 rfl (Nat.le_of_ble_eq_true rfl) rfl (s_X10_hypotheses e1) ?_
  refine a_aload_n dL_law_228 rfl rfl ?_
  refine a_aload_n dL_law_229 rfl rfl ?_
  refine a_iload_n dL_law_230 rfl rfl ?_
  refine a_iconst (v := 1) dL_law_231 (by decide) ?_
  refine a_iadd dL_law_232 ?_
  refine a_ldX dL_law_233 (h5 1 (by decide)) ?_
  refine e_callV (As := [.int (xs (Int32.ofNat i + 1).toNatClampNeg)]) (st := [.int r]) (a := 89) (ci := 11) false dL_law_234 mw_X11_hypotheses (Or.inl ⟨rfl, ml_L_22⟩) im_X11_hypotheses se_X11_hypotheses (by decide) h11.1 h11.2 rfl (Nat.le_of_ble_eq_true rfl) rfl (s_X11_hypotheses e2) ?_
  exact a_icmp_eq 957 dL_law_237 (by decide) (fun _ => kk) (fun c => absurd rfl c)
set_option maxHeartbeats 4000000 in
theorem lg_c2 {L i : Nat} {xs : Nat → Int32} {M M1 M2 : Mem} {r : Int32} {Q : Option Value → Mem → Prop} (h5 : ∀ j : Nat, j < 6 → vp_in (Int32.ofNat i + Int32.ofNat j) L) (h10 : fO M 0 10) (e1 : f_X10_goal 2047 0 (xs (Int32.ofNat i + 1).toNatClampNeg) M = some (r, M1)) (h11 : fO M1 89 11) (e2 : f_X11_goal 2047 89 (xs (Int32.ofNat i + 1).toNatClampNeg) M1 = some (r, M2)) (kk : AW (L, xs) (RL, cL_law, 4, (some .boolean), false, true, 2048) 0 0 957 [(3, .int (Int32.ofNat i)), (2, .ref 89), (1, .ref 0), (0, .ref 1000000)] [] M2 Q) : AW (L, xs) (RL, cL_law, 4, (some .boolean), false, true, 2048) 0 0 242 [(3, .int (Int32.ofNat i)), (2, .ref 89), (1, .ref 0), (0, .ref 1000000)] [] M Q := by
  refine a_aload_n dL_law_242 rfl rfl ?_
  refine a_aload_n dL_law_243 rfl rfl ?_
  refine a_iload_n dL_law_244 rfl rfl ?_
  refine a_iconst (v := 1) dL_law_245 (by decide) ?_
  refine a_iadd dL_law_246 ?_
  refine a_ldX dL_law_247 (h5 1 (by decide)) ?_
  refine e_callV (As := [.int (xs (Int32.ofNat i + 1).toNatClampNeg)]) (st := []) (a := 0) (ci := 10) false dL_law_248 mw_X10_goal (Or.inl ⟨rfl, ml_L_23⟩) im_X10_goal se_X10_goal (by decide) h10.1 h10.2 rfl (Nat.le_of_ble_eq_true rfl) rfl (s_X10_goal e1) ?_
  refine a_aload_n dL_law_251 rfl rfl ?_
  refine a_aload_n dL_law_252 rfl rfl ?_
  refine a_iload_n dL_law_253 rfl rfl ?_
  refine a_iconst (v := 1) dL_law_254 (by decide) ?_
  refine a_iadd dL_law_255 ?_
  refine a_ldX dL_law_256 (h5 1 (by decide)) ?_
  refine e_callV (As := [.int (xs (Int32.ofNat i + 1).toNatClampNeg)]) (st := [.int r]) (a := 89) (ci := 11) false dL_law_257 mw_X11_goal (Or.inl ⟨rfl, ml_L_26⟩) im_X11_goal se_X11_goal (by decide) h11.1 h11.2 rfl (Nat.le_of_ble_eq_true rfl) rfl (s_X11_goal e2) ?_
  exact a_icmp_eq 957 dL_law_260 (by decide) (fun _ => kk) (fun c => absurd rfl c)
set_option maxHeartbeats 4000000 in
theorem lg_c3 {L i : Nat} {xs : Nat → Int32} {M M1 M2 : Mem} {r : Int32} {Q : Option Value → Mem → Prop} (h5 : ∀ j : Nat, j < 6 → vp_in (Int32.ofNat i + Int32.ofNat j) L) (h10 : fO M 0 10) (e1 : f_X10_proof 2047 0 (xs (Int32.ofNat i + 1).toNatClampNeg) (xs (Int32.ofNat i + 2).toNatClampNeg) M = some (r, M1)) (h11 : fO M1 89 11) (e2 : f_X11_proof 2047 89 (xs (Int32.ofNat i + 1).toNatClampNeg) (xs (Int32.ofNat i + 2).toNatClampNeg) M1 = some (r, M2)) (kk : AW (L, xs) (RL, cL_law, 4, (some .boolean), false, true, 2048) 0 0 957 [(3, .int (Int32.ofNat i)), (2, .ref 89), (1, .ref 0), (0, .ref 1000000)] [] M2 Q) : AW (L, xs) (RL, cL_law, 4, (some .boolean), false, true, 2048) 0 0 265 [(3, .int (Int32.ofNat i)), (2, .ref 89), (1, .ref 0), (0, .ref 1000000)] [] M Q := by
  refine a_aload_n dL_law_265 rfl rfl ?_
  refine a_aload_n dL_law_266 rfl rfl ?_
  refine a_iload_n dL_law_267 rfl rfl ?_
  refine a_iconst (v := 1) dL_law_268 (by decide) ?_
  refine a_iadd dL_law_269 ?_
  refine a_ldX dL_law_270 (h5 1 (by decide)) ?_
  refine a_aload_n dL_law_271 rfl rfl ?_
  refine a_iload_n dL_law_272 rfl rfl ?_
  refine a_iconst (v := 2) dL_law_273 (by decide) ?_
  refine a_iadd dL_law_274 ?_
  refine a_ldX dL_law_275 (h5 2 (by decide)) ?_
  refine e_callV (As := [.int (xs (Int32.ofNat i + 1).toNatClampNeg), .int (xs (Int32.ofNat i + 2).toNatClampNeg)]) (st := []) (a := 0) (ci := 10) false dL_law_276 mw_X10_proof (Or.inl ⟨rfl, ml_L_27⟩) im_X10_proof se_X10_proof (by decide) h10.1 h10.2 rfl (Nat.le_of_ble_eq_true rfl) rfl (s_X10_proof e1) ?_
  refine a_aload_n dL_law_279 rfl rfl ?_
  refine a_aload_n dL_law_280 rfl rfl ?_
  refine a_iload_n dL_law_281 rfl rfl ?_
  refine a_iconst (v := 1) dL_law_282 (by decide) ?_
  refine a_iadd dL_law_283 ?_
  refine a_ldX dL_law_284 (h5 1 (by decide)) ?_
  refine a_aload_n dL_law_285 rfl rfl ?_
  refine a_iload_n dL_law_286 rfl rfl ?_
  refine a_iconst (v := 2) dL_law_287 (by decide) ?_
  refine a_iadd dL_law_288 ?_
  refine a_ldX dL_law_289 (h5 2 (by decide)) ?_
  refine e_callV (As := [.int (xs (Int32.ofNat i + 1).toNatClampNeg), .int (xs (Int32.ofNat i + 2).toNatClampNeg)]) (st := [.int r]) (a := 89) (ci := 11) false dL_law_290 mw_X11_proof (Or.inl ⟨rfl, ml_L_31⟩) im_X11_proof se_X11_proof (by decide) h11.1 h11.2 rfl (Nat.le_of_ble_eq_true rfl) rfl (s_X11_proof e2) ?_
  exact a_icmp_eq 957 dL_law_293 (by decide) (fun _ => kk) (fun c => absurd rfl c)
set_option maxHeartbeats 4000000 in
theorem lg_c4 {L i : Nat} {xs : Nat → Int32} {M M1 M2 : Mem} {r : Int32} {Q : Option Value → Mem → Prop} (h5 : ∀ j : Nat, j < 6 → vp_in (Int32.ofNat i + Int32.ofNat j) L) (h10 : fO M 0 10) (e1 : f_X10_fault 2047 0 (xs (Int32.ofNat i + 1).toNatClampNeg) M = some (r, M1)) (h11 : fO M1 89 11) (e2 : f_X11_fault 2047 89 (xs (Int32.ofNat i + 1).toNatClampNeg) M1 = some (r, M2)) (kk : AW (L, xs) (RL, cL_law, 4, (some .boolean), false, true, 2048) 0 0 957 [(3, .int (Int32.ofNat i)), (2, .ref 89), (1, .ref 0), (0, .ref 1000000)] [] M2 Q) : AW (L, xs) (RL, cL_law, 4, (some .boolean), false, true, 2048) 0 0 298 [(3, .int (Int32.ofNat i)), (2, .ref 89), (1, .ref 0), (0, .ref 1000000)] [] M Q := by
  refine a_aload_n dL_law_298 rfl rfl ?_
  refine a_aload_n dL_law_299 rfl rfl ?_
  refine a_iload_n dL_law_300 rfl rfl ?_
  refine a_iconst (v := 1) dL_law_301 (by decide) ?_
  refine a_iadd dL_law_302 ?_
  refine a_ldX dL_law_303 (h5 1 (by decide)) ?_
  refine e_callV (As := [.int (xs (Int32.ofNat i + 1).toNatClampNeg)]) (st := []) (a := 0) (ci := 10) false dL_law_304 mw_X10_fault (Or.inl ⟨rfl, ml_L_32⟩) im_X10_fault se_X10_fault (by decide) h10.1 h10.2 rfl (Nat.le_of_ble_eq_true rfl) rfl (s_X10_fault e1) ?_
  refine a_aload_n dL_law_307 rfl rfl ?_
  refine a_aload_n dL_law_308 rfl rfl ?_
  refine a_iload_n dL_law_309 rfl rfl ?_
  refine a_iconst (v := 1) dL_law_310 (by decide) ?_
  refine a_iadd dL_law_311 ?_
  refine a_ldX dL_law_312 (h5 1 (by decide)) ?_
  refine e_callV (As := [.int (xs (Int32.ofNat i + 1).toNatClampNeg)]) (st := [.int r]) (a := 89) (ci := 11) false dL_law_313 mw_X11_fault (Or.inl ⟨rfl, ml_L_35⟩) im_X11_fault se_X11_fault (by decide) h11.1 h11.2 rfl (Nat.le_of_ble_eq_true rfl) rfl (s_X11_fault e2) ?_
  exact a_icmp_eq 957 dL_law_316 (by decide) (fun _ => kk) (fun c => absurd rfl c)
set_option maxHeartbeats 4000000 in
theorem lg_c5 {L i : Nat} {xs : Nat → Int32} {M M1 M2 : Mem} {r : Int32} {Q : Option Value → Mem → Prop} (h5 : ∀ j : Nat, j < 6 → vp_in (Int32.ofNat i + Int32.ofNat j) L) (h10 : fO M 0 10) (e1 : f_X10_drop 2047 0 (xs (Int32.ofNat i + 1).toNatClampNeg) M = some (r, M1)) (h11 : fO M1 89 11) (e2 : f_X11_drop 2047 89 (xs (Int32.ofNat i + 1).toNatClampNeg) M1 = some (r, M2)) (kk : AW (L, xs) (RL, cL_law, 4, (some .boolean), false, true, 2048) 0 0 957 [(3, .int (Int32.ofNat i)), (2, .ref 89), (1, .ref 0), (0, .ref 1000000)] [] M2 Q) : AW (L, xs) (RL, cL_law, 4, (some .boolean), false, true, 2048) 0 0 321 [(3, .int (Int32.ofNat i)), (2, .ref 89), (1, .ref 0), (0, .ref 1000000)] [] M Q := by
  refine a_aload_n dL_law_321 rfl rfl ?_
  refine a_aload_n dL_law_322 rfl rfl ?_
  refine a_iload_n dL_law_323 rfl rfl ?_
  refine a_iconst (v := 1) dL_law_324 (by decide) ?_
  refine a_iadd dL_law_325 ?_
  refine a_ldX dL_law_326 (h5 1 (by decide)) ?_
  refine e_callV (As := [.int (xs (Int32.ofNat i + 1).toNatClampNeg)]) (st := []) (a := 0) (ci := 10) false dL_law_327 mw_X10_drop (Or.inl ⟨rfl, ml_L_36⟩) im_X10_drop se_X10_drop (by decide) h10.1 h10.2 rfl (Nat.le_of_ble_eq_true rfl) rfl (s_X10_drop e1) ?_
  refine a_aload_n dL_law_330 rfl rfl ?_
  refine a_aload_n dL_law_331 rfl rfl ?_
  refine a_iload_n dL_law_332 rfl rfl ?_
  refine a_iconst (v := 1) dL_law_333 (by decide) ?_
  refine a_iadd dL_law_334 ?_
  refine a_ldX dL_law_335 (h5 1 (by decide)) ?_
  refine e_callV (As := [.int (xs (Int32.ofNat i + 1).toNatClampNeg)]) (st := [.int r]) (a := 89) (ci := 11) false dL_law_336 mw_X11_drop (Or.inl ⟨rfl, ml_L_39⟩) im_X11_drop se_X11_drop (by decide) h11.1 h11.2 rfl (Nat.le_of_ble_eq_true rfl) rfl (s_X11_drop e2) ?_
  exact a_icmp_eq 957 dL_law_339 (by decide) (fun _ => kk) (fun c => absurd rfl c)
set_option maxHeartbeats 4000000 in
theorem lg_c6 {L i : Nat} {xs : Nat → Int32} {M M1 M2 : Mem} {r : Int32} {Q : Option Value → Mem → Prop} (h5 : ∀ j : Nat, j < 6 → vp_in (Int32.ofNat i + Int32.ofNat j) L) (h10 : fO M 0 10) (e1 : f_X10_count 2047 0 (xs (Int32.ofNat i + 1).toNatClampNeg) M = some (r, M1)) (h11 : fO M1 89 11) (e2 : f_X11_count 2047 89 (xs (Int32.ofNat i + 1).toNatClampNeg) M1 = some (r, M2)) (kk : AW (L, xs) (RL, cL_law, 4, (some .boolean), false, true, 2048) 0 0 957 [(3, .int (Int32.ofNat i)), (2, .ref 89), (1, .ref 0), (0, .ref 1000000)] [] M2 Q) : AW (L, xs) (RL, cL_law, 4, (some .boolean), false, true, 2048) 0 0 344 [(3, .int (Int32.ofNat i)), (2, .ref 89), (1, .ref 0), (0, .ref 1000000)] [] M Q := by
  refine a_aload_n dL_law_344 rfl rfl ?_
  refine a_aload_n dL_law_345 rfl rfl ?_
  refine a_iload_n dL_law_346 rfl rfl ?_
  refine a_iconst (v := 1) dL_law_347 (by decide) ?_
  refine a_iadd dL_law_348 ?_
  refine a_ldX dL_law_349 (h5 1 (by decide)) ?_
  refine e_callV (As := [.int (xs (Int32.ofNat i + 1).toNatClampNeg)]) (st := []) (a := 0) (ci := 10) false dL_law_350 mw_X10_count (Or.inl ⟨rfl, ml_L_40⟩) im_X10_count se_X10_count (by decide) h10.1 h10.2 rfl (Nat.le_of_ble_eq_true rfl) rfl (s_X10_count e1) ?_
  refine a_aload_n dL_law_353 rfl rfl ?_
  refine a_aload_n dL_law_354 rfl rfl ?_
  refine a_iload_n dL_law_355 rfl rfl ?_
  refine a_iconst (v := 1) dL_law_356 (by decide) ?_
  refine a_iadd dL_law_357 ?_
  refine a_ldX dL_law_358 (h5 1 (by decide)) ?_
  refine e_callV (As := [.int (xs (Int32.ofNat i + 1).toNatClampNeg)]) (st := [.int r]) (a := 89) (ci := 11) false dL_law_359 mw_X11_count (Or.inl ⟨rfl, ml_L_43⟩) im_X11_count se_X11_count (by decide) h11.1 h11.2 rfl (Nat.le_of_ble_eq_true rfl) rfl (s_X11_count e2) ?_
  exact a_icmp_eq 957 dL_law_362 (by decide) (fun _ => kk) (fun c => absurd rfl c)
set_option maxHeartbeats 4000000 in
theorem lg_c7 {L i : Nat} {xs : Nat → Int32} {M M1 M2 : Mem} {r : Int32} {Q : Option Value → Mem → Prop} (h5 : ∀ j : Nat, j < 6 → vp_in (Int32.ofNat i + Int32.ofNat j) L) (h10 : fO M 0 10) (e1 : f_X10_hypothesis 2047 0 (xs (Int32.ofNat i + 1).toNatClampNeg) (xs (Int32.ofNat i + 2).toNatClampNeg) (xs (Int32.ofNat i + 3).toNatClampNeg) M = some (r, M1)) (h11 : fO M1 89 11) (e2 : f_X11_hypothesis 2047 89 (xs (Int32.ofNat i + 1).toNatClampNeg) (xs (Int32.ofNat i + 2).toNatClampNeg) (xs (Int32.ofNat i + 3).toNatClampNeg) M1 = some (r, M2)) (kk : AW (L, xs) (RL, cL_law, 4, (some .boolean), false, true, 2048) 0 0 957 [(3, .int (Int32.ofNat i)), (2, .ref 89), (1, .ref 0), (0, .ref 1000000)] [] M2 Q) : AW (L, xs) (RL, cL_law, 4, (some .boolean), false, true, 2048) 0 0 367 [(3, .int (Int32.ofNat i)), (2, .ref 89), (1, .ref 0), (0, .ref 1000000)] [] M Q := by
  refine a_aload_n dL_law_367 rfl rfl ?_
  refine a_aload_n dL_law_368 rfl rfl ?_
  refine a_iload_n dL_law_369 rfl rfl ?_
  refine a_iconst (v := 1) dL_law_370 (by decide) ?_
  refine a_iadd dL_law_371 ?_
  refine a_ldX dL_law_372 (h5 1 (by decide)) ?_
  refine a_aload_n dL_law_373 rfl rfl ?_
  refine a_iload_n dL_law_374 rfl rfl ?_
  refine a_iconst (v := 2) dL_law_375 (by decide) ?_
  refine a_iadd dL_law_376 ?_
  refine a_ldX dL_law_377 (h5 2 (by decide)) ?_
  refine a_aload_n dL_law_378 rfl rfl ?_
  refine a_iload_n dL_law_379 rfl rfl ?_
  refine a_iconst (v := 3) dL_law_380 (by decide) ?_
  refine a_iadd dL_law_381 ?_
  refine a_ldX dL_law_382 (h5 3 (by decide)) ?_
  refine e_callV (As := [.int (xs (Int32.ofNat i + 1).toNatClampNeg), .int (xs (Int32.ofNat i + 2).toNatClampNeg), .int (xs (Int32.ofNat i + 3).toNatClampNeg)]) (st := []) (a := 0) (ci := 10) false dL_law_383 mw_X10_hypothesis (Or.inl ⟨rfl, ml_L_44⟩) im_X10_hypothesis se_X10_hypothesis (by decide) h10.1 h10.2 rfl (Nat.le_of_ble_eq_true rfl) rfl (s_X10_hypothesis e1) ?_
  refine a_aload_n dL_law_386 rfl rfl ?_
  refine a_aload_n dL_law_387 rfl rfl ?_
  refine a_iload_n dL_law_388 rfl rfl ?_
  refine a_iconst (v := 1) dL_law_389 (by decide) ?_
  refine a_iadd dL_law_390 ?_
  refine a_ldX dL_law_391 (h5 1 (by decide)) ?_
  refine a_aload_n dL_law_392 rfl rfl ?_
  refine a_iload_n dL_law_393 rfl rfl ?_
  refine a_iconst (v := 2) dL_law_394 (by decide) ?_
  refine a_iadd dL_law_395 ?_
  refine a_ldX dL_law_396 (h5 2 (by decide)) ?_
  refine a_aload_n dL_law_397 rfl rfl ?_
  refine a_iload_n dL_law_398 rfl rfl ?_
  refine a_iconst (v := 3) dL_law_399 (by decide) ?_
  refine a_iadd dL_law_400 ?_
  refine a_ldX dL_law_401 (h5 3 (by decide)) ?_
  refine e_callV (As := [.int (xs (Int32.ofNat i + 1).toNatClampNeg), .int (xs (Int32.ofNat i + 2).toNatClampNeg), .int (xs (Int32.ofNat i + 3).toNatClampNeg)]) (st := [.int r]) (a := 89) (ci := 11) false dL_law_402 mw_X11_hypothesis (Or.inl ⟨rfl, ml_L_48⟩) im_X11_hypothesis se_X11_hypothesis (by decide) h11.1 h11.2 rfl (Nat.le_of_ble_eq_true rfl) rfl (s_X11_hypothesis e2) ?_
  exact a_icmp_eq 957 dL_law_405 (by decide) (fun _ => kk) (fun c => absurd rfl c)
set_option maxHeartbeats 4000000 in
theorem lg_c8 {L i : Nat} {xs : Nat → Int32} {M M1 M2 : Mem} {r : Int32} {Q : Option Value → Mem → Prop} (h5 : ∀ j : Nat, j < 6 → vp_in (Int32.ofNat i + Int32.ofNat j) L) (h10 : fO M 0 10) (e1 : f_X10_goalByte 2047 0 (xs (Int32.ofNat i + 1).toNatClampNeg) M = some (r, M1)) (h11 : fO M1 89 11) (e2 : f_X11_goalByte 2047 89 (xs (Int32.ofNat i + 1).toNatClampNeg) M1 = some (r, M2)) (kk : AW (L, xs) (RL, cL_law, 4, (some .boolean), false, true, 2048) 0 0 957 [(3, .int (Int32.ofNat i)), (2, .ref 89), (1, .ref 0), (0, .ref 1000000)] [] M2 Q) : AW (L, xs) (RL, cL_law, 4, (some .boolean), false, true, 2048) 0 0 410 [(3, .int (Int32.ofNat i)), (2, .ref 89), (1, .ref 0), (0, .ref 1000000)] [] M Q := by
  refine a_aload_n dL_law_410 rfl rfl ?_
  refine a_aload_n dL_law_411 rfl rfl ?_
  refine a_iload_n dL_law_412 rfl rfl ?_
  refine a_iconst (v := 1) dL_law_413 (by decide) ?_
  refine a_iadd dL_law_414 ?_
  refine a_ldX dL_law_415 (h5 1 (by decide)) ?_
  refine e_callV (As := [.int (xs (Int32.ofNat i + 1).toNatClampNeg)]) (st := []) (a := 0) (ci := 10) false dL_law_416 mw_X10_goalByte (Or.inl ⟨rfl, ml_L_49⟩) im_X10_goalByte se_X10_goalByte (by decide) h10.1 h10.2 rfl (Nat.le_of_ble_eq_true rfl) rfl (s_X10_goalByte e1) ?_
  refine a_aload_n dL_law_419 rfl rfl ?_
  refine a_aload_n dL_law_420 rfl rfl ?_
  refine a_iload_n dL_law_421 rfl rfl ?_
  refine a_iconst (v := 1) dL_law_422 (by decide) ?_
  refine a_iadd dL_law_423 ?_
  refine a_ldX dL_law_424 (h5 1 (by decide)) ?_
  refine e_callV (As := [.int (xs (Int32.ofNat i + 1).toNatClampNeg)]) (st := [.int r]) (a := 89) (ci := 11) false dL_law_425 mw_X11_goalByte (Or.inl ⟨rfl, ml_L_52⟩) im_X11_goalByte se_X11_goalByte (by decide) h11.1 h11.2 rfl (Nat.le_of_ble_eq_true rfl) rfl (s_X11_goalByte e2) ?_
  exact a_icmp_eq 957 dL_law_428 (by decide) (fun _ => kk) (fun c => absurd rfl c)
set_option maxHeartbeats 4000000 in
theorem lg_c9 {L i : Nat} {xs : Nat → Int32} {M M1 M2 : Mem} {r : Int32} {Q : Option Value → Mem → Prop} (h5 : ∀ j : Nat, j < 6 → vp_in (Int32.ofNat i + Int32.ofNat j) L) (h10 : fO M 0 10) (e1 : f_X10_spell 2047 0 (xs (Int32.ofNat i + 1).toNatClampNeg) (xs (Int32.ofNat i + 2).toNatClampNeg) (xs (Int32.ofNat i + 3).toNatClampNeg) M = some (r, M1)) (h11 : fO M1 89 11) (e2 : f_X11_spell 2047 89 (xs (Int32.ofNat i + 1).toNatClampNeg) (xs (Int32.ofNat i + 2).toNatClampNeg) (xs (Int32.ofNat i + 3).toNatClampNeg) M1 = some (r, M2)) (kk : AW (L, xs) (RL, cL_law, 4, (some .boolean), false, true, 2048) 0 0 957 [(3, .int (Int32.ofNat i)), (2, .ref 89), (1, .ref 0), (0, .ref 1000000)] [] M2 Q) : AW (L, xs) (RL, cL_law, 4, (some .boolean), false, true, 2048) 0 0 433 [(3, .int (Int32.ofNat i)), (2, .ref 89), (1, .ref 0), (0, .ref 1000000)] [] M Q := by
  refine a_aload_n dL_law_433 rfl rfl ?_
  refine a_aload_n dL_law_434 rfl rfl ?_
  refine a_iload_n dL_law_435 rfl rfl ?_
  refine a_iconst (v := 1) dL_law_436 (by decide) ?_
  refine a_iadd dL_law_437 ?_
  refine a_ldX dL_law_438 (h5 1 (by decide)) ?_
  refine a_aload_n dL_law_439 rfl rfl ?_
  refine a_iload_n dL_law_440 rfl rfl ?_
  refine a_iconst (v := 2) dL_law_441 (by decide) ?_
  refine a_iadd dL_law_442 ?_
  refine a_ldX dL_law_443 (h5 2 (by decide)) ?_
  refine a_aload_n dL_law_444 rfl rfl ?_
  refine a_iload_n dL_law_445 rfl rfl ?_
  refine a_iconst (v := 3) dL_law_446 (by decide) ?_
  refine a_iadd dL_law_447 ?_
  refine a_ldX dL_law_448 (h5 3 (by decide)) ?_
  refine e_callV (As := [.int (xs (Int32.ofNat i + 1).toNatClampNeg), .int (xs (Int32.ofNat i + 2).toNatClampNeg), .int (xs (Int32.ofNat i + 3).toNatClampNeg)]) (st := []) (a := 0) (ci := 10) false dL_law_449 mw_X10_spell (Or.inl ⟨rfl, ml_L_53⟩) im_X10_spell se_X10_spell (by decide) h10.1 h10.2 rfl (Nat.le_of_ble_eq_true rfl) rfl (s_X10_spell e1) ?_
  refine a_aload_n dL_law_452 rfl rfl ?_
  refine a_aload_n dL_law_453 rfl rfl ?_
  refine a_iload_n dL_law_454 rfl rfl ?_
  refine a_iconst (v := 1) dL_law_455 (by decide) ?_
  refine a_iadd dL_law_456 ?_
  refine a_ldX dL_law_457 (h5 1 (by decide)) ?_
  refine a_aload_n dL_law_458 rfl rfl ?_
  refine a_iload_n dL_law_459 rfl rfl ?_
  refine a_iconst (v := 2) dL_law_460 (by decide) ?_
  refine a_iadd dL_law_461 ?_
  refine a_ldX dL_law_462 (h5 2 (by decide)) ?_
  refine a_aload_n dL_law_463 rfl rfl ?_
  refine a_iload_n dL_law_464 rfl rfl ?_
  refine a_iconst (v := 3) dL_law_465 (by decide) ?_
  refine a_iadd dL_law_466 ?_
  refine a_ldX dL_law_467 (h5 3 (by decide)) ?_
  refine e_callV (As := [.int (xs (Int32.ofNat i + 1).toNatClampNeg), .int (xs (Int32.ofNat i + 2).toNatClampNeg), .int (xs (Int32.ofNat i + 3).toNatClampNeg)]) (st := [.int r]) (a := 89) (ci := 11) false dL_law_468 mw_X11_spell (Or.inl ⟨rfl, ml_L_56⟩) im_X11_spell se_X11_spell (by decide) h11.1 h11.2 rfl (Nat.le_of_ble_eq_true rfl) rfl (s_X11_spell e2) ?_
  exact a_icmp_eq 957 dL_law_471 (by decide) (fun _ => kk) (fun c => absurd rfl c)
set_option maxHeartbeats 4000000 in
theorem lg_c10 {L i : Nat} {xs : Nat → Int32} {M M1 M2 : Mem} {r : Int32} {Q : Option Value → Mem → Prop} (h5 : ∀ j : Nat, j < 6 → vp_in (Int32.ofNat i + Int32.ofNat j) L) (h10 : fO M 0 10) (e1 : f_X10_length 2047 0 (xs (Int32.ofNat i + 1).toNatClampNeg) (xs (Int32.ofNat i + 2).toNatClampNeg) M = some (r, M1)) (h11 : fO M1 89 11) (e2 : f_X11_length 2047 89 (xs (Int32.ofNat i + 1).toNatClampNeg) (xs (Int32.ofNat i + 2).toNatClampNeg) M1 = some (r, M2)) (kk : AW (L, xs) (RL, cL_law, 4, (some .boolean), false, true, 2048) 0 0 957 [(3, .int (Int32.ofNat i)), (2, .ref 89), (1, .ref 0), (0, .ref 1000000)] [] M2 Q) : AW (L, xs) (RL, cL_law, 4, (some .boolean), false, true, 2048) 0 0 476 [(3, .int (Int32.ofNat i)), (2, .ref 89), (1, .ref 0), (0, .ref 1000000)] [] M Q := by
  refine a_aload_n dL_law_476 rfl rfl ?_
  refine a_aload_n dL_law_477 rfl rfl ?_
  refine a_iload_n dL_law_478 rfl rfl ?_
  refine a_iconst (v := 1) dL_law_479 (by decide) ?_
  refine a_iadd dL_law_480 ?_
  refine a_ldX dL_law_481 (h5 1 (by decide)) ?_
  refine a_aload_n dL_law_482 rfl rfl ?_
  refine a_iload_n dL_law_483 rfl rfl ?_
  refine a_iconst (v := 2) dL_law_484 (by decide) ?_
  refine a_iadd dL_law_485 ?_
  refine a_ldX dL_law_486 (h5 2 (by decide)) ?_
  refine e_callV (As := [.int (xs (Int32.ofNat i + 1).toNatClampNeg), .int (xs (Int32.ofNat i + 2).toNatClampNeg)]) (st := []) (a := 0) (ci := 10) false dL_law_487 mw_X10_length (Or.inl ⟨rfl, ml_L_57⟩) im_X10_length se_X10_length (by decide) h10.1 h10.2 rfl (Nat.le_of_ble_eq_true rfl) rfl (s_X10_length e1) ?_
  refine a_aload_n dL_law_490 rfl rfl ?_
  refine a_aload_n dL_law_491 rfl rfl ?_
  refine a_iload_n dL_law_492 rfl rfl ?_
  refine a_iconst (v := 1) dL_law_493 (by decide) ?_
  refine a_iadd dL_law_494 ?_
  refine a_ldX dL_law_495 (h5 1 (by decide)) ?_
  refine a_aload_n dL_law_496 rfl rfl ?_
  refine a_iload_n dL_law_497 rfl rfl ?_
  refine a_iconst (v := 2) dL_law_498 (by decide) ?_
  refine a_iadd dL_law_499 ?_
  refine a_ldX dL_law_500 (h5 2 (by decide)) ?_
  refine e_callV (As := [.int (xs (Int32.ofNat i + 1).toNatClampNeg), .int (xs (Int32.ofNat i + 2).toNatClampNeg)]) (st := [.int r]) (a := 89) (ci := 11) false dL_law_501 mw_X11_length (Or.inl ⟨rfl, ml_L_60⟩) im_X11_length se_X11_length (by decide) h11.1 h11.2 rfl (Nat.le_of_ble_eq_true rfl) rfl (s_X11_length e2) ?_
  exact a_icmp_eq 957 dL_law_504 (by decide) (fun _ => kk) (fun c => absurd rfl c)
set_option maxHeartbeats 4000000 in
theorem lg_c11 {L i : Nat} {xs : Nat → Int32} {M M1 M2 : Mem} {r : Int32} {Q : Option Value → Mem → Prop} (h5 : ∀ j : Nat, j < 6 → vp_in (Int32.ofNat i + Int32.ofNat j) L) (h10 : fO M 0 10) (e1 : f_X10_size 2047 0 (xs (Int32.ofNat i + 1).toNatClampNeg) (xs (Int32.ofNat i + 2).toNatClampNeg) M = some (r, M1)) (h11 : fO M1 89 11) (e2 : f_X11_size 2047 89 (xs (Int32.ofNat i + 1).toNatClampNeg) (xs (Int32.ofNat i + 2).toNatClampNeg) M1 = some (r, M2)) (kk : AW (L, xs) (RL, cL_law, 4, (some .boolean), false, true, 2048) 0 0 957 [(3, .int (Int32.ofNat i)), (2, .ref 89), (1, .ref 0), (0, .ref 1000000)] [] M2 Q) : AW (L, xs) (RL, cL_law, 4, (some .boolean), false, true, 2048) 0 0 509 [(3, .int (Int32.ofNat i)), (2, .ref 89), (1, .ref 0), (0, .ref 1000000)] [] M Q := by
  refine a_aload_n dL_law_509 rfl rfl ?_
  refine a_aload_n dL_law_510 rfl rfl ?_
  refine a_iload_n dL_law_511 rfl rfl ?_
  refine a_iconst (v := 1) dL_law_512 (by decide) ?_
  refine a_iadd dL_law_513 ?_
  refine a_ldX dL_law_514 (h5 1 (by decide)) ?_
  refine a_aload_n dL_law_515 rfl rfl ?_
  refine a_iload_n dL_law_516 rfl rfl ?_
  refine a_iconst (v := 2) dL_law_517 (by decide) ?_
  refine a_iadd dL_law_518 ?_
  refine a_ldX dL_law_519 (h5 2 (by decide)) ?_
  refine e_callV (As := [.int (xs (Int32.ofNat i + 1).toNatClampNeg), .int (xs (Int32.ofNat i + 2).toNatClampNeg)]) (st := []) (a := 0) (ci := 10) false dL_law_520 mw_X10_size (Or.inl ⟨rfl, ml_L_61⟩) im_X10_size se_X10_size (by decide) h10.1 h10.2 rfl (Nat.le_of_ble_eq_true rfl) rfl (s_X10_size e1) ?_
  refine a_aload_n dL_law_523 rfl rfl ?_
  refine a_aload_n dL_law_524 rfl rfl ?_
  refine a_iload_n dL_law_525 rfl rfl ?_
  refine a_iconst (v := 1) dL_law_526 (by decide) ?_
  refine a_iadd dL_law_527 ?_
  refine a_ldX dL_law_528 (h5 1 (by decide)) ?_
  refine a_aload_n dL_law_529 rfl rfl ?_
  refine a_iload_n dL_law_530 rfl rfl ?_
  refine a_iconst (v := 2) dL_law_531 (by decide) ?_
  refine a_iadd dL_law_532 ?_
  refine a_ldX dL_law_533 (h5 2 (by decide)) ?_
  refine e_callV (As := [.int (xs (Int32.ofNat i + 1).toNatClampNeg), .int (xs (Int32.ofNat i + 2).toNatClampNeg)]) (st := [.int r]) (a := 89) (ci := 11) false dL_law_534 mw_X11_size (Or.inl ⟨rfl, ml_L_64⟩) im_X11_size se_X11_size (by decide) h11.1 h11.2 rfl (Nat.le_of_ble_eq_true rfl) rfl (s_X11_size e2) ?_
  exact a_icmp_eq 957 dL_law_537 (by decide) (fun _ => kk) (fun c => absurd rfl c)
set_option maxHeartbeats 4000000 in
theorem lg_c12 {L i : Nat} {xs : Nat → Int32} {M M1 M2 : Mem} {r : Int32} {Q : Option Value → Mem → Prop} (h5 : ∀ j : Nat, j < 6 → vp_in (Int32.ofNat i + Int32.ofNat j) L) (h10 : fO M 0 10) (e1 : f_X10_redexes 2047 0 (xs (Int32.ofNat i + 1).toNatClampNeg) (xs (Int32.ofNat i + 2).toNatClampNeg) M = some (r, M1)) (h11 : fO M1 89 11) (e2 : f_X11_redexes 2047 89 (xs (Int32.ofNat i + 1).toNatClampNeg) (xs (Int32.ofNat i + 2).toNatClampNeg) M1 = some (r, M2)) (kk : AW (L, xs) (RL, cL_law, 4, (some .boolean), false, true, 2048) 0 0 957 [(3, .int (Int32.ofNat i)), (2, .ref 89), (1, .ref 0), (0, .ref 1000000)] [] M2 Q) : AW (L, xs) (RL, cL_law, 4, (some .boolean), false, true, 2048) 0 0 542 [(3, .int (Int32.ofNat i)), (2, .ref 89), (1, .ref 0), (0, .ref 1000000)] [] M Q := by
  refine a_aload_n dL_law_542 rfl rfl ?_
  refine a_aload_n dL_law_543 rfl rfl ?_
  refine a_iload_n dL_law_544 rfl rfl ?_
  refine a_iconst (v := 1) dL_law_545 (by decide) ?_
  refine a_iadd dL_law_546 ?_
  refine a_ldX dL_law_547 (h5 1 (by decide)) ?_
  refine a_aload_n dL_law_548 rfl rfl ?_
  refine a_iload_n dL_law_549 rfl rfl ?_
  refine a_iconst (v := 2) dL_law_550 (by decide) ?_
  refine a_iadd dL_law_551 ?_
  refine a_ldX dL_law_552 (h5 2 (by decide)) ?_
  refine e_callV (As := [.int (xs (Int32.ofNat i + 1).toNatClampNeg), .int (xs (Int32.ofNat i + 2).toNatClampNeg)]) (st := []) (a := 0) (ci := 10) false dL_law_553 mw_X10_redexes (Or.inl ⟨rfl, ml_L_65⟩) im_X10_redexes se_X10_redexes (by decide) h10.1 h10.2 rfl (Nat.le_of_ble_eq_true rfl) rfl (s_X10_redexes e1) ?_
  refine a_aload_n dL_law_556 rfl rfl ?_
  refine a_aload_n dL_law_557 rfl rfl ?_
  refine a_iload_n dL_law_558 rfl rfl ?_
  refine a_iconst (v := 1) dL_law_559 (by decide) ?_
  refine a_iadd dL_law_560 ?_
  refine a_ldX dL_law_561 (h5 1 (by decide)) ?_
  refine a_aload_n dL_law_562 rfl rfl ?_
  refine a_iload_n dL_law_563 rfl rfl ?_
  refine a_iconst (v := 2) dL_law_564 (by decide) ?_
  refine a_iadd dL_law_565 ?_
  refine a_ldX dL_law_566 (h5 2 (by decide)) ?_
  refine e_callV (As := [.int (xs (Int32.ofNat i + 1).toNatClampNeg), .int (xs (Int32.ofNat i + 2).toNatClampNeg)]) (st := [.int r]) (a := 89) (ci := 11) false dL_law_567 mw_X11_redexes (Or.inl ⟨rfl, ml_L_68⟩) im_X11_redexes se_X11_redexes (by decide) h11.1 h11.2 rfl (Nat.le_of_ble_eq_true rfl) rfl (s_X11_redexes e2) ?_
  exact a_icmp_eq 957 dL_law_570 (by decide) (fun _ => kk) (fun c => absurd rfl c)
set_option maxHeartbeats 4000000 in
theorem lg_c13 {L i : Nat} {xs : Nat → Int32} {M M1 M2 : Mem} {r : Int32} {Q : Option Value → Mem → Prop} (h5 : ∀ j : Nat, j < 6 → vp_in (Int32.ofNat i + Int32.ofNat j) L) (h10 : fO M 0 10) (e1 : f_X10_step 2047 0 (xs (Int32.ofNat i + 1).toNatClampNeg) M = some (r, M1)) (h11 : fO M1 89 11) (e2 : f_X11_step 2047 89 (xs (Int32.ofNat i + 1).toNatClampNeg) M1 = some (r, M2)) (kk : AW (L, xs) (RL, cL_law, 4, (some .boolean), false, true, 2048) 0 0 957 [(3, .int (Int32.ofNat i)), (2, .ref 89), (1, .ref 0), (0, .ref 1000000)] [] M2 Q) : AW (L, xs) (RL, cL_law, 4, (some .boolean), false, true, 2048) 0 0 575 [(3, .int (Int32.ofNat i)), (2, .ref 89), (1, .ref 0), (0, .ref 1000000)] [] M Q := by
  refine a_aload_n dL_law_575 rfl rfl ?_
  refine a_aload_n dL_law_576 rfl rfl ?_
  refine a_iload_n dL_law_577 rfl rfl ?_
  refine a_iconst (v := 1) dL_law_578 (by decide) ?_
  refine a_iadd dL_law_579 ?_
  refine a_ldX dL_law_580 (h5 1 (by decide)) ?_
  refine e_callV (As := [.int (xs (Int32.ofNat i + 1).toNatClampNeg)]) (st := []) (a := 0) (ci := 10) false dL_law_581 mw_X10_step (Or.inl ⟨rfl, ml_L_69⟩) im_X10_step se_X10_step (by decide) h10.1 h10.2 rfl (Nat.le_of_ble_eq_true rfl) rfl (s_X10_step e1) ?_
  refine a_aload_n dL_law_584 rfl rfl ?_
  refine a_aload_n dL_law_585 rfl rfl ?_
  refine a_iload_n dL_law_586 rfl rfl ?_
  refine a_iconst (v := 1) dL_law_587 (by decide) ?_
  refine a_iadd dL_law_588 ?_
  refine a_ldX dL_law_589 (h5 1 (by decide)) ?_
  refine e_callV (As := [.int (xs (Int32.ofNat i + 1).toNatClampNeg)]) (st := [.int r]) (a := 89) (ci := 11) false dL_law_590 mw_X11_step (Or.inl ⟨rfl, ml_L_72⟩) im_X11_step se_X11_step (by decide) h11.1 h11.2 rfl (Nat.le_of_ble_eq_true rfl) rfl (s_X11_step e2) ?_
  exact a_icmp_eq 957 dL_law_593 (by decide) (fun _ => kk) (fun c => absurd rfl c)
set_option maxHeartbeats 4000000 in
theorem lg_c14 {L i : Nat} {xs : Nat → Int32} {M M1 M2 : Mem} {r : Int32} {Q : Option Value → Mem → Prop} (h5 : ∀ j : Nat, j < 6 → vp_in (Int32.ofNat i + Int32.ofNat j) L) (h10 : fO M 0 10) (e1 : f_X10_normal 2047 0 (xs (Int32.ofNat i + 1).toNatClampNeg) M = some (r, M1)) (h11 : fO M1 89 11) (e2 : f_X11_normal 2047 89 (xs (Int32.ofNat i + 1).toNatClampNeg) M1 = some (r, M2)) (kk : AW (L, xs) (RL, cL_law, 4, (some .boolean), false, true, 2048) 0 0 957 [(3, .int (Int32.ofNat i)), (2, .ref 89), (1, .ref 0), (0, .ref 1000000)] [] M2 Q) : AW (L, xs) (RL, cL_law, 4, (some .boolean), false, true, 2048) 0 0 598 [(3, .int (Int32.ofNat i)), (2, .ref 89), (1, .ref 0), (0, .ref 1000000)] [] M Q := by
  refine a_aload_n dL_law_598 rfl rfl ?_
  refine a_aload_n dL_law_599 rfl rfl ?_
  refine a_iload_n dL_law_600 rfl rfl ?_
  refine a_iconst (v := 1) dL_law_601 (by decide) ?_
  refine a_iadd dL_law_602 ?_
  refine a_ldX dL_law_603 (h5 1 (by decide)) ?_
  refine e_callV (As := [.int (xs (Int32.ofNat i + 1).toNatClampNeg)]) (st := []) (a := 0) (ci := 10) false dL_law_604 mw_X10_normal (Or.inl ⟨rfl, ml_L_73⟩) im_X10_normal se_X10_normal (by decide) h10.1 h10.2 rfl (Nat.le_of_ble_eq_true rfl) rfl (s_X10_normal e1) ?_
  refine a_aload_n dL_law_607 rfl rfl ?_
  refine a_aload_n dL_law_608 rfl rfl ?_
  refine a_iload_n dL_law_609 rfl rfl ?_
  refine a_iconst (v := 1) dL_law_610 (by decide) ?_
  refine a_iadd dL_law_611 ?_
  refine a_ldX dL_law_612 (h5 1 (by decide)) ?_
  refine e_callV (As := [.int (xs (Int32.ofNat i + 1).toNatClampNeg)]) (st := [.int r]) (a := 89) (ci := 11) false dL_law_613 mw_X11_normal (Or.inl ⟨rfl, ml_L_76⟩) im_X11_normal se_X11_normal (by decide) h11.1 h11.2 rfl (Nat.le_of_ble_eq_true rfl) rfl (s_X11_normal e2) ?_
  exact a_icmp_eq 957 dL_law_616 (by decide) (fun _ => kk) (fun c => absurd rfl c)
set_option maxHeartbeats 4000000 in
theorem lg_c15 {L i : Nat} {xs : Nat → Int32} {M M1 M2 : Mem} {r : Int32} {Q : Option Value → Mem → Prop} (h5 : ∀ j : Nat, j < 6 → vp_in (Int32.ofNat i + Int32.ofNat j) L) (h10 : fO M 0 10) (e1 : f_X10_trace 2047 0 (xs (Int32.ofNat i + 1).toNatClampNeg) M = some (r, M1)) (h11 : fO M1 89 11) (e2 : f_X11_trace 2047 89 (xs (Int32.ofNat i + 1).toNatClampNeg) M1 = some (r, M2)) (kk : AW (L, xs) (RL, cL_law, 4, (some .boolean), false, true, 2048) 0 0 957 [(3, .int (Int32.ofNat i)), (2, .ref 89), (1, .ref 0), (0, .ref 1000000)] [] M2 Q) : AW (L, xs) (RL, cL_law, 4, (some .boolean), false, true, 2048) 0 0 621 [(3, .int (Int32.ofNat i)), (2, .ref 89), (1, .ref 0), (0, .ref 1000000)] [] M Q := by
  refine a_aload_n dL_law_621 rfl rfl ?_
  refine a_aload_n dL_law_622 rfl rfl ?_
  refine a_iload_n dL_law_623 rfl rfl ?_
  refine a_iconst (v := 1) dL_law_624 (by decide) ?_
  refine a_iadd dL_law_625 ?_
  refine a_ldX dL_law_626 (h5 1 (by decide)) ?_
  refine e_callV (As := [.int (xs (Int32.ofNat i + 1).toNatClampNeg)]) (st := []) (a := 0) (ci := 10) false dL_law_627 mw_X10_trace (Or.inl ⟨rfl, ml_L_77⟩) im_X10_trace se_X10_trace (by decide) h10.1 h10.2 rfl (Nat.le_of_ble_eq_true rfl) rfl (s_X10_trace e1) ?_
  refine a_aload_n dL_law_630 rfl rfl ?_
  refine a_aload_n dL_law_631 rfl rfl ?_
  refine a_iload_n dL_law_632 rfl rfl ?_
  refine a_iconst (v := 1) dL_law_633 (by decide) ?_
  refine a_iadd dL_law_634 ?_
  refine a_ldX dL_law_635 (h5 1 (by decide)) ?_
  refine e_callV (As := [.int (xs (Int32.ofNat i + 1).toNatClampNeg)]) (st := [.int r]) (a := 89) (ci := 11) false dL_law_636 mw_X11_trace (Or.inl ⟨rfl, ml_L_80⟩) im_X11_trace se_X11_trace (by decide) h11.1 h11.2 rfl (Nat.le_of_ble_eq_true rfl) rfl (s_X11_trace e2) ?_
  exact a_icmp_eq 957 dL_law_639 (by decide) (fun _ => kk) (fun c => absurd rfl c)
set_option maxHeartbeats 4000000 in
theorem lg_c16 {L i : Nat} {xs : Nat → Int32} {M M1 M2 : Mem} {r : Int32} {Q : Option Value → Mem → Prop} (h5 : ∀ j : Nat, j < 6 → vp_in (Int32.ofNat i + Int32.ofNat j) L) (h10 : fO M 0 10) (e1 : f_X10_cut 2047 0 (xs (Int32.ofNat i + 1).toNatClampNeg) (xs (Int32.ofNat i + 2).toNatClampNeg) (xs (Int32.ofNat i + 3).toNatClampNeg) (xs (Int32.ofNat i + 4).toNatClampNeg) M = some (r, M1)) (h11 : fO M1 89 11) (e2 : f_X11_cut 2047 89 (xs (Int32.ofNat i + 1).toNatClampNeg) (xs (Int32.ofNat i + 2).toNatClampNeg) (xs (Int32.ofNat i + 3).toNatClampNeg) (xs (Int32.ofNat i + 4).toNatClampNeg) M1 = some (r, M2)) (kk : AW (L, xs) (RL, cL_law, 4, (some .boolean), false, true, 2048) 0 0 957 [(3, .int (Int32.ofNat i)), (2, .ref 89), (1, .ref 0), (0, .ref 1000000)] [] M2 Q) : AW (L, xs) (RL, cL_law, 4, (some .boolean), false, true, 2048) 0 0 644 [(3, .int (Int32.ofNat i)), (2, .ref 89), (1, .ref 0), (0, .ref 1000000)] [] M Q := by
  refine a_aload_n dL_law_644 rfl rfl ?_
  refine a_aload_n dL_law_645 rfl rfl ?_
  refine a_iload_n dL_law_646 rfl rfl ?_
  refine a_iconst (v := 1) dL_law_647 (by decide) ?_
  refine a_iadd dL_law_648 ?_
  refine a_ldX dL_law_649 (h5 1 (by decide)) ?_
  refine a_aload_n dL_law_650 rfl rfl ?_
  refine a_iload_n dL_law_651 rfl rfl ?_
  refine a_iconst (v := 2) dL_law_652 (by decide) ?_
  refine a_iadd dL_law_653 ?_
  refine a_ldX dL_law_654 (h5 2 (by decide)) ?_
  refine a_aload_n dL_law_655 rfl rfl ?_
  refine a_iload_n dL_law_656 rfl rfl ?_
  refine a_iconst (v := 3) dL_law_657 (by decide) ?_
  refine a_iadd dL_law_658 ?_
  refine a_ldX dL_law_659 (h5 3 (by decide)) ?_
  refine a_aload_n dL_law_660 rfl rfl ?_
  refine a_iload_n dL_law_661 rfl rfl ?_
  refine a_iconst (v := 4) dL_law_662 (by decide) ?_
  refine a_iadd dL_law_663 ?_
  refine a_ldX dL_law_664 (h5 4 (by decide)) ?_
  refine e_callV (As := [.int (xs (Int32.ofNat i + 1).toNatClampNeg), .int (xs (Int32.ofNat i + 2).toNatClampNeg), .int (xs (Int32.ofNat i + 3).toNatClampNeg), .int (xs (Int32.ofNat i + 4).toNatClampNeg)]) (st := []) (a := 0) (ci := 10) false dL_law_665 mw_X10_cut (Or.inl ⟨rfl, ml_L_81⟩) im_X10_cut se_X10_cut (by decide) h10.1 h10.2 rfl (Nat.le_of_ble_eq_true rfl) rfl (s_X10_cut e1) ?_
  refine a_aload_n dL_law_668 rfl rfl ?_
  refine a_aload_n dL_law_669 rfl rfl ?_
  refine a_iload_n dL_law_670 rfl rfl ?_
  refine a_iconst (v := 1) dL_law_671 (by decide) ?_
  refine a_iadd dL_law_672 ?_
  refine a_ldX dL_law_673 (h5 1 (by decide)) ?_
  refine a_aload_n dL_law_674 rfl rfl ?_
  refine a_iload_n dL_law_675 rfl rfl ?_
  refine a_iconst (v := 2) dL_law_676 (by decide) ?_
  refine a_iadd dL_law_677 ?_
  refine a_ldX dL_law_678 (h5 2 (by decide)) ?_
  refine a_aload_n dL_law_679 rfl rfl ?_
  refine a_iload_n dL_law_680 rfl rfl ?_
  refine a_iconst (v := 3) dL_law_681 (by decide) ?_
  refine a_iadd dL_law_682 ?_
  refine a_ldX dL_law_683 (h5 3 (by decide)) ?_
  refine a_aload_n dL_law_684 rfl rfl ?_
  refine a_iload_n dL_law_685 rfl rfl ?_
  refine a_iconst (v := 4) dL_law_686 (by decide) ?_
  refine a_iadd dL_law_687 ?_
  refine a_ldX dL_law_688 (h5 4 (by decide)) ?_
  refine e_callV (As := [.int (xs (Int32.ofNat i + 1).toNatClampNeg), .int (xs (Int32.ofNat i + 2).toNatClampNeg), .int (xs (Int32.ofNat i + 3).toNatClampNeg), .int (xs (Int32.ofNat i + 4).toNatClampNeg)]) (st := [.int r]) (a := 89) (ci := 11) false dL_law_689 mw_X11_cut (Or.inl ⟨rfl, ml_L_85⟩) im_X11_cut se_X11_cut (by decide) h11.1 h11.2 rfl (Nat.le_of_ble_eq_true rfl) rfl (s_X11_cut e2) ?_
  exact a_icmp_eq 957 dL_law_692 (by decide) (fun _ => kk) (fun c => absurd rfl c)
set_option maxHeartbeats 4000000 in
theorem lg_c17 {L i : Nat} {xs : Nat → Int32} {M M1 M2 : Mem} {r : Int32} {Q : Option Value → Mem → Prop} (h5 : ∀ j : Nat, j < 6 → vp_in (Int32.ofNat i + Int32.ofNat j) L) (h10 : fO M 0 10) (e1 : f_X10_lines 2047 0 (xs (Int32.ofNat i + 1).toNatClampNeg) M = some (r, M1)) (h11 : fO M1 89 11) (e2 : f_X11_lines 2047 89 (xs (Int32.ofNat i + 1).toNatClampNeg) M1 = some (r, M2)) (kk : AW (L, xs) (RL, cL_law, 4, (some .boolean), false, true, 2048) 0 0 957 [(3, .int (Int32.ofNat i)), (2, .ref 89), (1, .ref 0), (0, .ref 1000000)] [] M2 Q) : AW (L, xs) (RL, cL_law, 4, (some .boolean), false, true, 2048) 0 0 697 [(3, .int (Int32.ofNat i)), (2, .ref 89), (1, .ref 0), (0, .ref 1000000)] [] M Q := by
  refine a_aload_n dL_law_697 rfl rfl ?_
  refine a_aload_n dL_law_698 rfl rfl ?_
  refine a_iload_n dL_law_699 rfl rfl ?_
  refine a_iconst (v := 1) dL_law_700 (by decide) ?_
  refine a_iadd dL_law_701 ?_
  refine a_ldX dL_law_702 (h5 1 (by decide)) ?_
  refine e_callV (As := [.int (xs (Int32.ofNat i + 1).toNatClampNeg)]) (st := []) (a := 0) (ci := 10) false dL_law_703 mw_X10_lines (Or.inl ⟨rfl, ml_L_86⟩) im_X10_lines se_X10_lines (by decide) h10.1 h10.2 rfl (Nat.le_of_ble_eq_true rfl) rfl (s_X10_lines e1) ?_
  refine a_aload_n dL_law_706 rfl rfl ?_
  refine a_aload_n dL_law_707 rfl rfl ?_
  refine a_iload_n dL_law_708 rfl rfl ?_
  refine a_iconst (v := 1) dL_law_709 (by decide) ?_
  refine a_iadd dL_law_710 ?_
  refine a_ldX dL_law_711 (h5 1 (by decide)) ?_
  refine e_callV (As := [.int (xs (Int32.ofNat i + 1).toNatClampNeg)]) (st := [.int r]) (a := 89) (ci := 11) false dL_law_712 mw_X11_lines (Or.inl ⟨rfl, ml_L_89⟩) im_X11_lines se_X11_lines (by decide) h11.1 h11.2 rfl (Nat.le_of_ble_eq_true rfl) rfl (s_X11_lines e2) ?_
  exact a_icmp_eq 957 dL_law_715 (by decide) (fun _ => kk) (fun c => absurd rfl c)
set_option maxHeartbeats 4000000 in
theorem lg_c18 {L i : Nat} {xs : Nat → Int32} {M M1 M2 : Mem} {r : Int32} {Q : Option Value → Mem → Prop} (h5 : ∀ j : Nat, j < 6 → vp_in (Int32.ofNat i + Int32.ofNat j) L) (h10 : fO M 0 10) (e1 : f_X10_line 2047 0 (xs (Int32.ofNat i + 1).toNatClampNeg) (xs (Int32.ofNat i + 2).toNatClampNeg) (xs (Int32.ofNat i + 3).toNatClampNeg) M = some (r, M1)) (h11 : fO M1 89 11) (e2 : f_X11_line 2047 89 (xs (Int32.ofNat i + 1).toNatClampNeg) (xs (Int32.ofNat i + 2).toNatClampNeg) (xs (Int32.ofNat i + 3).toNatClampNeg) M1 = some (r, M2)) (kk : AW (L, xs) (RL, cL_law, 4, (some .boolean), false, true, 2048) 0 0 957 [(3, .int (Int32.ofNat i)), (2, .ref 89), (1, .ref 0), (0, .ref 1000000)] [] M2 Q) : AW (L, xs) (RL, cL_law, 4, (some .boolean), false, true, 2048) 0 0 720 [(3, .int (Int32.ofNat i)), (2, .ref 89), (1, .ref 0), (0, .ref 1000000)] [] M Q := by
  refine a_aload_n dL_law_720 rfl rfl ?_
  refine a_aload_n dL_law_721 rfl rfl ?_
  refine a_iload_n dL_law_722 rfl rfl ?_
  refine a_iconst (v := 1) dL_law_723 (by decide) ?_
  refine a_iadd dL_law_724 ?_
  refine a_ldX dL_law_725 (h5 1 (by decide)) ?_
  refine a_aload_n dL_law_726 rfl rfl ?_
  refine a_iload_n dL_law_727 rfl rfl ?_
  refine a_iconst (v := 2) dL_law_728 (by decide) ?_
  refine a_iadd dL_law_729 ?_
  refine a_ldX dL_law_730 (h5 2 (by decide)) ?_
  refine a_aload_n dL_law_731 rfl rfl ?_
  refine a_iload_n dL_law_732 rfl rfl ?_
  refine a_iconst (v := 3) dL_law_733 (by decide) ?_
  refine a_iadd dL_law_734 ?_
  refine a_ldX dL_law_735 (h5 3 (by decide)) ?_
  refine e_callV (As := [.int (xs (Int32.ofNat i + 1).toNatClampNeg), .int (xs (Int32.ofNat i + 2).toNatClampNeg), .int (xs (Int32.ofNat i + 3).toNatClampNeg)]) (st := []) (a := 0) (ci := 10) false dL_law_736 mw_X10_line (Or.inl ⟨rfl, ml_L_90⟩) im_X10_line se_X10_line (by decide) h10.1 h10.2 rfl (Nat.le_of_ble_eq_true rfl) rfl (s_X10_line e1) ?_
  refine a_aload_n dL_law_739 rfl rfl ?_
  refine a_aload_n dL_law_740 rfl rfl ?_
  refine a_iload_n dL_law_741 rfl rfl ?_
  refine a_iconst (v := 1) dL_law_742 (by decide) ?_
  refine a_iadd dL_law_743 ?_
  refine a_ldX dL_law_744 (h5 1 (by decide)) ?_
  refine a_aload_n dL_law_745 rfl rfl ?_
  refine a_iload_n dL_law_746 rfl rfl ?_
  refine a_iconst (v := 2) dL_law_747 (by decide) ?_
  refine a_iadd dL_law_748 ?_
  refine a_ldX dL_law_749 (h5 2 (by decide)) ?_
  refine a_aload_n dL_law_750 rfl rfl ?_
  refine a_iload_n dL_law_751 rfl rfl ?_
  refine a_iconst (v := 3) dL_law_752 (by decide) ?_
  refine a_iadd dL_law_753 ?_
  refine a_ldX dL_law_754 (h5 3 (by decide)) ?_
  refine e_callV (As := [.int (xs (Int32.ofNat i + 1).toNatClampNeg), .int (xs (Int32.ofNat i + 2).toNatClampNeg), .int (xs (Int32.ofNat i + 3).toNatClampNeg)]) (st := [.int r]) (a := 89) (ci := 11) false dL_law_755 mw_X11_line (Or.inl ⟨rfl, ml_L_93⟩) im_X11_line se_X11_line (by decide) h11.1 h11.2 rfl (Nat.le_of_ble_eq_true rfl) rfl (s_X11_line e2) ?_
  exact a_icmp_eq 957 dL_law_758 (by decide) (fun _ => kk) (fun c => absurd rfl c)
set_option maxHeartbeats 4000000 in
theorem lg_c19 {L i : Nat} {xs : Nat → Int32} {M M1 M2 : Mem} {r : Int32} {Q : Option Value → Mem → Prop} (h5 : ∀ j : Nat, j < 6 → vp_in (Int32.ofNat i + Int32.ofNat j) L) (h10 : fO M 0 10) (e1 : f_X10_lineByte 2047 0 (xs (Int32.ofNat i + 1).toNatClampNeg) (xs (Int32.ofNat i + 2).toNatClampNeg) (xs (Int32.ofNat i + 3).toNatClampNeg) M = some (r, M1)) (h11 : fO M1 89 11) (e2 : f_X11_lineByte 2047 89 (xs (Int32.ofNat i + 1).toNatClampNeg) (xs (Int32.ofNat i + 2).toNatClampNeg) (xs (Int32.ofNat i + 3).toNatClampNeg) M1 = some (r, M2)) (kk : AW (L, xs) (RL, cL_law, 4, (some .boolean), false, true, 2048) 0 0 957 [(3, .int (Int32.ofNat i)), (2, .ref 89), (1, .ref 0), (0, .ref 1000000)] [] M2 Q) : AW (L, xs) (RL, cL_law, 4, (some .boolean), false, true, 2048) 0 0 763 [(3, .int (Int32.ofNat i)), (2, .ref 89), (1, .ref 0), (0, .ref 1000000)] [] M Q := by
  refine a_aload_n dL_law_763 rfl rfl ?_
  refine a_aload_n dL_law_764 rfl rfl ?_
  refine a_iload_n dL_law_765 rfl rfl ?_
  refine a_iconst (v := 1) dL_law_766 (by decide) ?_
  refine a_iadd dL_law_767 ?_
  refine a_ldX dL_law_768 (h5 1 (by decide)) ?_
  refine a_aload_n dL_law_769 rfl rfl ?_
  refine a_iload_n dL_law_770 rfl rfl ?_
  refine a_iconst (v := 2) dL_law_771 (by decide) ?_
  refine a_iadd dL_law_772 ?_
  refine a_ldX dL_law_773 (h5 2 (by decide)) ?_
  refine a_aload_n dL_law_774 rfl rfl ?_
  refine a_iload_n dL_law_775 rfl rfl ?_
  refine a_iconst (v := 3) dL_law_776 (by decide) ?_
  refine a_iadd dL_law_777 ?_
  refine a_ldX dL_law_778 (h5 3 (by decide)) ?_
  refine e_callV (As := [.int (xs (Int32.ofNat i + 1).toNatClampNeg), .int (xs (Int32.ofNat i + 2).toNatClampNeg), .int (xs (Int32.ofNat i + 3).toNatClampNeg)]) (st := []) (a := 0) (ci := 10) false dL_law_779 mw_X10_lineByte (Or.inl ⟨rfl, ml_L_94⟩) im_X10_lineByte se_X10_lineByte (by decide) h10.1 h10.2 rfl (Nat.le_of_ble_eq_true rfl) rfl (s_X10_lineByte e1) ?_
  refine a_aload_n dL_law_782 rfl rfl ?_
  refine a_aload_n dL_law_783 rfl rfl ?_
  refine a_iload_n dL_law_784 rfl rfl ?_
  refine a_iconst (v := 1) dL_law_785 (by decide) ?_
  refine a_iadd dL_law_786 ?_
  refine a_ldX dL_law_787 (h5 1 (by decide)) ?_
  refine a_aload_n dL_law_788 rfl rfl ?_
  refine a_iload_n dL_law_789 rfl rfl ?_
  refine a_iconst (v := 2) dL_law_790 (by decide) ?_
  refine a_iadd dL_law_791 ?_
  refine a_ldX dL_law_792 (h5 2 (by decide)) ?_
  refine a_aload_n dL_law_793 rfl rfl ?_
  refine a_iload_n dL_law_794 rfl rfl ?_
  refine a_iconst (v := 3) dL_law_795 (by decide) ?_
  refine a_iadd dL_law_796 ?_
  refine a_ldX dL_law_797 (h5 3 (by decide)) ?_
  refine e_callV (As := [.int (xs (Int32.ofNat i + 1).toNatClampNeg), .int (xs (Int32.ofNat i + 2).toNatClampNeg), .int (xs (Int32.ofNat i + 3).toNatClampNeg)]) (st := [.int r]) (a := 89) (ci := 11) false dL_law_798 mw_X11_lineByte (Or.inl ⟨rfl, ml_L_97⟩) im_X11_lineByte se_X11_lineByte (by decide) h11.1 h11.2 rfl (Nat.le_of_ble_eq_true rfl) rfl (s_X11_lineByte e2) ?_
  exact a_icmp_eq 957 dL_law_801 (by decide) (fun _ => kk) (fun c => absurd rfl c)
set_option maxHeartbeats 4000000 in
theorem lg_c20 {L i : Nat} {xs : Nat → Int32} {M M1 M2 : Mem} {r : Int32} {Q : Option Value → Mem → Prop} (h5 : ∀ j : Nat, j < 6 → vp_in (Int32.ofNat i + Int32.ofNat j) L) (h10 : fO M 0 10) (e1 : f_X10_equal 2047 0 (xs (Int32.ofNat i + 1).toNatClampNeg) (xs (Int32.ofNat i + 2).toNatClampNeg) M = some (r, M1)) (h11 : fO M1 89 11) (e2 : f_X11_equal 2047 89 (xs (Int32.ofNat i + 1).toNatClampNeg) (xs (Int32.ofNat i + 2).toNatClampNeg) M1 = some (r, M2)) (kk : AW (L, xs) (RL, cL_law, 4, (some .boolean), false, true, 2048) 0 0 957 [(3, .int (Int32.ofNat i)), (2, .ref 89), (1, .ref 0), (0, .ref 1000000)] [] M2 Q) : AW (L, xs) (RL, cL_law, 4, (some .boolean), false, true, 2048) 0 0 806 [(3, .int (Int32.ofNat i)), (2, .ref 89), (1, .ref 0), (0, .ref 1000000)] [] M Q := by
  refine a_aload_n dL_law_806 rfl rfl ?_
  refine a_aload_n dL_law_807 rfl rfl ?_
  refine a_iload_n dL_law_808 rfl rfl ?_
  refine a_iconst (v := 1) dL_law_809 (by decide) ?_
  refine a_iadd dL_law_810 ?_
  refine a_ldX dL_law_811 (h5 1 (by decide)) ?_
  refine a_aload_n dL_law_812 rfl rfl ?_
  refine a_iload_n dL_law_813 rfl rfl ?_
  refine a_iconst (v := 2) dL_law_814 (by decide) ?_
  refine a_iadd dL_law_815 ?_
  refine a_ldX dL_law_816 (h5 2 (by decide)) ?_
  refine e_callV (As := [.int (xs (Int32.ofNat i + 1).toNatClampNeg), .int (xs (Int32.ofNat i + 2).toNatClampNeg)]) (st := []) (a := 0) (ci := 10) false dL_law_817 mw_X10_equal (Or.inl ⟨rfl, ml_L_98⟩) im_X10_equal se_X10_equal (by decide) h10.1 h10.2 rfl (Nat.le_of_ble_eq_true rfl) rfl (s_X10_equal e1) ?_
  refine a_aload_n dL_law_820 rfl rfl ?_
  refine a_aload_n dL_law_821 rfl rfl ?_
  refine a_iload_n dL_law_822 rfl rfl ?_
  refine a_iconst (v := 1) dL_law_823 (by decide) ?_
  refine a_iadd dL_law_824 ?_
  refine a_ldX dL_law_825 (h5 1 (by decide)) ?_
  refine a_aload_n dL_law_826 rfl rfl ?_
  refine a_iload_n dL_law_827 rfl rfl ?_
  refine a_iconst (v := 2) dL_law_828 (by decide) ?_
  refine a_iadd dL_law_829 ?_
  refine a_ldX dL_law_830 (h5 2 (by decide)) ?_
  refine e_callV (As := [.int (xs (Int32.ofNat i + 1).toNatClampNeg), .int (xs (Int32.ofNat i + 2).toNatClampNeg)]) (st := [.int r]) (a := 89) (ci := 11) false dL_law_831 mw_X11_equal (Or.inl ⟨rfl, ml_L_101⟩) im_X11_equal se_X11_equal (by decide) h11.1 h11.2 rfl (Nat.le_of_ble_eq_true rfl) rfl (s_X11_equal e2) ?_
  exact a_icmp_eq 957 dL_law_834 (by decide) (fun _ => kk) (fun c => absurd rfl c)
set_option maxHeartbeats 4000000 in
theorem lg_c21 {L i : Nat} {xs : Nat → Int32} {M M1 M2 : Mem} {r : Int32} {Q : Option Value → Mem → Prop} (h5 : ∀ j : Nat, j < 6 → vp_in (Int32.ofNat i + Int32.ofNat j) L) (h10 : fO M 0 10) (e1 : f_X10_alike 2047 0 (xs (Int32.ofNat i + 1).toNatClampNeg) (xs (Int32.ofNat i + 2).toNatClampNeg) M = some (r, M1)) (h11 : fO M1 89 11) (e2 : f_X11_alike 2047 89 (xs (Int32.ofNat i + 1).toNatClampNeg) (xs (Int32.ofNat i + 2).toNatClampNeg) M1 = some (r, M2)) (kk : AW (L, xs) (RL, cL_law, 4, (some .boolean), false, true, 2048) 0 0 957 [(3, .int (Int32.ofNat i)), (2, .ref 89), (1, .ref 0), (0, .ref 1000000)] [] M2 Q) : AW (L, xs) (RL, cL_law, 4, (some .boolean), false, true, 2048) 0 0 839 [(3, .int (Int32.ofNat i)), (2, .ref 89), (1, .ref 0), (0, .ref 1000000)] [] M Q := by
  refine a_aload_n dL_law_839 rfl rfl ?_
  refine a_aload_n dL_law_840 rfl rfl ?_
  refine a_iload_n dL_law_841 rfl rfl ?_
  refine a_iconst (v := 1) dL_law_842 (by decide) ?_
  refine a_iadd dL_law_843 ?_
  refine a_ldX dL_law_844 (h5 1 (by decide)) ?_
  refine a_aload_n dL_law_845 rfl rfl ?_
  refine a_iload_n dL_law_846 rfl rfl ?_
  refine a_iconst (v := 2) dL_law_847 (by decide) ?_
  refine a_iadd dL_law_848 ?_
  refine a_ldX dL_law_849 (h5 2 (by decide)) ?_
  refine e_callV (As := [.int (xs (Int32.ofNat i + 1).toNatClampNeg), .int (xs (Int32.ofNat i + 2).toNatClampNeg)]) (st := []) (a := 0) (ci := 10) false dL_law_850 mw_X10_alike (Or.inl ⟨rfl, ml_L_102⟩) im_X10_alike se_X10_alike (by decide) h10.1 h10.2 rfl (Nat.le_of_ble_eq_true rfl) rfl (s_X10_alike e1) ?_
  refine a_aload_n dL_law_853 rfl rfl ?_
  refine a_aload_n dL_law_854 rfl rfl ?_
  refine a_iload_n dL_law_855 rfl rfl ?_
  refine a_iconst (v := 1) dL_law_856 (by decide) ?_
  refine a_iadd dL_law_857 ?_
  refine a_ldX dL_law_858 (h5 1 (by decide)) ?_
  refine a_aload_n dL_law_859 rfl rfl ?_
  refine a_iload_n dL_law_860 rfl rfl ?_
  refine a_iconst (v := 2) dL_law_861 (by decide) ?_
  refine a_iadd dL_law_862 ?_
  refine a_ldX dL_law_863 (h5 2 (by decide)) ?_
  refine e_callV (As := [.int (xs (Int32.ofNat i + 1).toNatClampNeg), .int (xs (Int32.ofNat i + 2).toNatClampNeg)]) (st := [.int r]) (a := 89) (ci := 11) false dL_law_864 mw_X11_alike (Or.inl ⟨rfl, ml_L_105⟩) im_X11_alike se_X11_alike (by decide) h11.1 h11.2 rfl (Nat.le_of_ble_eq_true rfl) rfl (s_X11_alike e2) ?_
  exact a_icmp_eq 957 dL_law_867 (by decide) (fun _ => kk) (fun c => absurd rfl c)
set_option maxHeartbeats 4000000 in
theorem lg_c22 {L i : Nat} {xs : Nat → Int32} {M M1 M2 : Mem} {r : Int32} {Q : Option Value → Mem → Prop} (h5 : ∀ j : Nat, j < 6 → vp_in (Int32.ofNat i + Int32.ofNat j) L) (h10 : fO M 0 10) (e1 : f_X10_side 2047 0 (xs (Int32.ofNat i + 1).toNatClampNeg) M = some (r, M1)) (h11 : fO M1 89 11) (e2 : f_X11_side 2047 89 (xs (Int32.ofNat i + 1).toNatClampNeg) M1 = some (r, M2)) (kk : AW (L, xs) (RL, cL_law, 4, (some .boolean), false, true, 2048) 0 0 957 [(3, .int (Int32.ofNat i)), (2, .ref 89), (1, .ref 0), (0, .ref 1000000)] [] M2 Q) : AW (L, xs) (RL, cL_law, 4, (some .boolean), false, true, 2048) 0 0 872 [(3, .int (Int32.ofNat i)), (2, .ref 89), (1, .ref 0), (0, .ref 1000000)] [] M Q := by
  refine a_aload_n dL_law_872 rfl rfl ?_
  refine a_aload_n dL_law_873 rfl rfl ?_
  refine a_iload_n dL_law_874 rfl rfl ?_
  refine a_iconst (v := 1) dL_law_875 (by decide) ?_
  refine a_iadd dL_law_876 ?_
  refine a_ldX dL_law_877 (h5 1 (by decide)) ?_
  refine e_callV (As := [.int (xs (Int32.ofNat i + 1).toNatClampNeg)]) (st := []) (a := 0) (ci := 10) false dL_law_878 mw_X10_side (Or.inl ⟨rfl, ml_L_106⟩) im_X10_side se_X10_side (by decide) h10.1 h10.2 rfl (Nat.le_of_ble_eq_true rfl) rfl (s_X10_side e1) ?_
  refine a_aload_n dL_law_881 rfl rfl ?_
  refine a_aload_n dL_law_882 rfl rfl ?_
  refine a_iload_n dL_law_883 rfl rfl ?_
  refine a_iconst (v := 1) dL_law_884 (by decide) ?_
  refine a_iadd dL_law_885 ?_
  refine a_ldX dL_law_886 (h5 1 (by decide)) ?_
  refine e_callV (As := [.int (xs (Int32.ofNat i + 1).toNatClampNeg)]) (st := [.int r]) (a := 89) (ci := 11) false dL_law_887 mw_X11_side (Or.inl ⟨rfl, ml_L_109⟩) im_X11_side se_X11_side (by decide) h11.1 h11.2 rfl (Nat.le_of_ble_eq_true rfl) rfl (s_X11_side e2) ?_
  exact a_icmp_eq 957 dL_law_890 (by decide) (fun _ => kk) (fun c => absurd rfl c)
set_option maxHeartbeats 4000000 in
theorem lg_c23 {L i : Nat} {xs : Nat → Int32} {M M1 M2 : Mem} {r : Int32} {Q : Option Value → Mem → Prop} (h5 : ∀ j : Nat, j < 6 → vp_in (Int32.ofNat i + Int32.ofNat j) L) (h10 : fO M 0 10) (e1 : f_X10_provable 2047 0  M = some (r, M1)) (h11 : fO M1 89 11) (e2 : f_X11_provable 2047 89  M1 = some (r, M2)) (kk : AW (L, xs) (RL, cL_law, 4, (some .boolean), false, true, 2048) 0 0 957 [(3, .int (Int32.ofNat i)), (2, .ref 89), (1, .ref 0), (0, .ref 1000000)] [] M2 Q) : AW (L, xs) (RL, cL_law, 4, (some .boolean), false, true, 2048) 0 0 895 [(3, .int (Int32.ofNat i)), (2, .ref 89), (1, .ref 0), (0, .ref 1000000)] [] M Q := by
  refine a_aload_n dL_law_895 rfl rfl ?_
  refine e_callV (As := []) (st := []) (a := 0) (ci := 10) false dL_law_896 mw_X10_provable (Or.inl ⟨rfl, ml_L_110⟩) im_X10_provable se_X10_provable (by decide) h10.1 h10.2 rfl (Nat.le_of_ble_eq_true rfl) rfl (s_X10_provable e1) ?_
  refine a_aload_n dL_law_899 rfl rfl ?_
  refine e_callV (As := []) (st := [.int r]) (a := 89) (ci := 11) false dL_law_900 mw_X11_provable (Or.inl ⟨rfl, ml_L_114⟩) im_X11_provable se_X11_provable (by decide) h11.1 h11.2 rfl (Nat.le_of_ble_eq_true rfl) rfl (s_X11_provable e2) ?_
  exact a_icmp_eq 957 dL_law_903 (by decide) (fun _ => kk) (fun c => absurd rfl c)
set_option maxHeartbeats 4000000 in
theorem lg_c24 {L i : Nat} {xs : Nat → Int32} {M M1 M2 : Mem} {r : Int32} {Q : Option Value → Mem → Prop} (h5 : ∀ j : Nat, j < 6 → vp_in (Int32.ofNat i + Int32.ofNat j) L) (h10 : fO M 0 10) (e1 : f_X10_bySide 2047 0 (xs (Int32.ofNat i + 1).toNatClampNeg) M = some (r, M1)) (h11 : fO M1 89 11) (e2 : f_X11_bySide 2047 89 (xs (Int32.ofNat i + 1).toNatClampNeg) M1 = some (r, M2)) (kk : AW (L, xs) (RL, cL_law, 4, (some .boolean), false, true, 2048) 0 0 957 [(3, .int (Int32.ofNat i)), (2, .ref 89), (1, .ref 0), (0, .ref 1000000)] [] M2 Q) : AW (L, xs) (RL, cL_law, 4, (some .boolean), false, true, 2048) 0 0 908 [(3, .int (Int32.ofNat i)), (2, .ref 89), (1, .ref 0), (0, .ref 1000000)] [] M Q := by
  refine a_aload_n dL_law_908 rfl rfl ?_
  refine a_aload_n dL_law_909 rfl rfl ?_
  refine a_iload_n dL_law_910 rfl rfl ?_
  refine a_iconst (v := 1) dL_law_911 (by decide) ?_
  refine a_iadd dL_law_912 ?_
  refine a_ldX dL_law_913 (h5 1 (by decide)) ?_
  refine e_callV (As := [.int (xs (Int32.ofNat i + 1).toNatClampNeg)]) (st := []) (a := 0) (ci := 10) false dL_law_914 mw_X10_bySide (Or.inl ⟨rfl, ml_L_115⟩) im_X10_bySide se_X10_bySide (by decide) h10.1 h10.2 rfl (Nat.le_of_ble_eq_true rfl) rfl (s_X10_bySide e1) ?_
  refine a_aload_n dL_law_917 rfl rfl ?_
  refine a_aload_n dL_law_918 rfl rfl ?_
  refine a_iload_n dL_law_919 rfl rfl ?_
  refine a_iconst (v := 1) dL_law_920 (by decide) ?_
  refine a_iadd dL_law_921 ?_
  refine a_ldX dL_law_922 (h5 1 (by decide)) ?_
  refine e_callV (As := [.int (xs (Int32.ofNat i + 1).toNatClampNeg)]) (st := [.int r]) (a := 89) (ci := 11) false dL_law_923 mw_X11_bySide (Or.inl ⟨rfl, ml_L_118⟩) im_X11_bySide se_X11_bySide (by decide) h11.1 h11.2 rfl (Nat.le_of_ble_eq_true rfl) rfl (s_X11_bySide e2) ?_
  exact a_icmp_eq 957 dL_law_926 (by decide) (fun _ => kk) (fun c => absurd rfl c)
set_option maxHeartbeats 4000000 in
theorem lg_c25 {L i : Nat} {xs : Nat → Int32} {M M1 M2 : Mem} {r : Int32} {Q : Option Value → Mem → Prop} (h5 : ∀ j : Nat, j < 6 → vp_in (Int32.ofNat i + Int32.ofNat j) L) (h10 : fO M 0 10) (e1 : f_X10_classical 2047 0  M = some (r, M1)) (h11 : fO M1 89 11) (e2 : f_X11_classical 2047 89  M1 = some (r, M2)) (kk : AW (L, xs) (RL, cL_law, 4, (some .boolean), false, true, 2048) 0 0 957 [(3, .int (Int32.ofNat i)), (2, .ref 89), (1, .ref 0), (0, .ref 1000000)] [] M2 Q) : AW (L, xs) (RL, cL_law, 4, (some .boolean), false, true, 2048) 0 0 931 [(3, .int (Int32.ofNat i)), (2, .ref 89), (1, .ref 0), (0, .ref 1000000)] [] M Q := by
  refine a_aload_n dL_law_931 rfl rfl ?_
  refine e_callV (As := []) (st := []) (a := 0) (ci := 10) false dL_law_932 mw_X10_classical (Or.inl ⟨rfl, ml_L_119⟩) im_X10_classical se_X10_classical (by decide) h10.1 h10.2 rfl (Nat.le_of_ble_eq_true rfl) rfl (s_X10_classical e1) ?_
  refine a_aload_n dL_law_935 rfl rfl ?_
  refine e_callV (As := []) (st := [.int r]) (a := 89) (ci := 11) false dL_law_936 mw_X11_classical (Or.inl ⟨rfl, ml_L_122⟩) im_X11_classical se_X11_classical (by decide) h11.1 h11.2 rfl (Nat.le_of_ble_eq_true rfl) rfl (s_X11_classical e2) ?_
  exact a_icmp_eq 957 dL_law_939 (by decide) (fun _ => kk) (fun c => absurd rfl c)
set_option maxHeartbeats 4000000 in
theorem lg_c26 {L i : Nat} {xs : Nat → Int32} {M M1 M2 : Mem} {r : Int32} {Q : Option Value → Mem → Prop} (h5 : ∀ j : Nat, j < 6 → vp_in (Int32.ofNat i + Int32.ofNat j) L) (h10 : fO M 0 10) (e1 : f_X10_against 2047 0  M = some (r, M1)) (h11 : fO M1 89 11) (e2 : f_X11_against 2047 89  M1 = some (r, M2)) (kk : AW (L, xs) (RL, cL_law, 4, (some .boolean), false, true, 2048) 0 0 957 [(3, .int (Int32.ofNat i)), (2, .ref 89), (1, .ref 0), (0, .ref 1000000)] [] M2 Q) : AW (L, xs) (RL, cL_law, 4, (some .boolean), false, true, 2048) 0 0 944 [(3, .int (Int32.ofNat i)), (2, .ref 89), (1, .ref 0), (0, .ref 1000000)] [] M Q := by
  refine a_aload_n dL_law_944 rfl rfl ?_
  refine e_callV (As := []) (st := []) (a := 0) (ci := 10) false dL_law_945 mw_X10_against (Or.inl ⟨rfl, ml_L_123⟩) im_X10_against se_X10_against (by decide) h10.1 h10.2 rfl (Nat.le_of_ble_eq_true rfl) rfl (s_X10_against e1) ?_
  refine a_aload_n dL_law_948 rfl rfl ?_
  refine e_callV (As := []) (st := [.int r]) (a := 89) (ci := 11) false dL_law_949 mw_X11_against (Or.inl ⟨rfl, ml_L_126⟩) im_X11_against se_X11_against (by decide) h11.1 h11.2 rfl (Nat.le_of_ble_eq_true rfl) rfl (s_X11_against e2) ?_
  exact a_icmp_eq 957 dL_law_952 (by decide) (fun _ => kk) (fun c => absurd rfl c)
set_option maxHeartbeats 4000000 in
theorem lg_head {P : Nat → Mem → Prop} (hG : Good P) {L : Nat} {xs : Nat → Int32} (hL : L ≤ 3072) : ∀ (z k : Nat) {M : Mem}, k + z = 513 → k ≤ 512 → P k M → AW (L, xs) (RL, cL_law, 4, (some .boolean), false, true, 2048) 0 0 18 [(3, .int (Int32.ofNat (6 * k))), (2, .ref 89), (1, .ref 0), (0, .ref 1000000)] [] M (fun v _ => v = some (.int 1)) := by
  intro z
  induction z with
  | zero => intro k M h1 h2; omega
  | succ z ih =>
    intro k M h1 hk hP
    have eL : (Int32.ofNat L - 6).toInt = (L : Int) - 6 := by
      rw [Int32.toInt_sub, of_toInt (by omega), show (6 : Int32).toInt = 6 from rfl]
      exact Int.bmod_eq_of_le (by omega) (by omega)
    have ek : (Int32.ofNat (6 * k)).toInt = ((6 * k : Nat) : Int) := of_toInt (by omega)
    refine a_iload_n dL_law_18 rfl rfl ?_
    refine a_aload_n dL_law_19 rfl rfl ?_
    refine a_lenX dL_law_20 ?_
    refine a_bipush (v := 6) dL_law_21 (by decide) ?_
    refine a_isub dL_law_23 ?_
    refine a_icmp_gt 963 dL_law_24 (by decide) (fun _ => ?_) (fun c => ?_)
    · refine a_iconst (v := 1) dL_law_963 (by decide) ?_
      exact a_zret dL_law_964 rfl (by decide) rfl
    · have hle : 6 * k + 6 ≤ L := by
        have c2 : (Int32.ofNat (6 * k)).toInt ≤ (Int32.ofNat L - 6).toInt := Int32.le_iff_toInt_le.mp (Int32.not_lt.mp c)
        rw [eL, ek] at c2
        omega
      have hk2 : k < 512 := by omega
      have h5 : ∀ j : Nat, j < 6 → vp_in (Int32.ofNat (6 * k) + Int32.ofNat j) L := fun j hj => by
        rw [ofn_add]
        exact vp_of (by omega) hL
      have hg := hG k M hk2 hP
      have hend : ∀ M2, P (k + 1) M2 → AW (L, xs) (RL, cL_law, 4, (some .boolean), false, true, 2048) 0 0 957 [(3, .int (Int32.ofNat (6 * k))), (2, .ref 89), (1, .ref 0), (0, .ref 1000000)] [] M2 (fun v _ => v = some (.int 1)) := fun M2 hP2 => by
        refine a_iinc (v := Int32.ofNat (6 * (k + 1))) dL_law_957 rfl (by rw [show 6 * (k + 1) = 6 * k + 6 by omega, ← ofn_add]; rfl) (Nat.le_of_ble_eq_true rfl) (lv2 := [(3, .int (Int32.ofNat (6 * (k + 1)))), (2, .ref 89), (1, .ref 0), (0, .ref 1000000)]) rfl ?_
        refine a_goto 18 dL_law_960 (by decide) ?_
        exact ih (k + 1) (by omega) (by omega) hP2
      refine a_aload_n dL_law_27 rfl rfl ?_
      refine a_iload_n dL_law_28 rfl rfl ?_
      refine a_ldX dL_law_29 (by have := h5 0 (by decide); rwa [ofn_add] at this) ?_
      refine a_bipush (v := 31) dL_law_30 (by decide) ?_
      refine a_iand dL_law_32 ?_
      obtain ⟨j, hj, ej⟩ := pk_andE (xs (Int32.ofNat (6 * k)).toNatClampNeg) (m := 31) 5 (by decide)
      refine a_st (st2 := [.int (nI j)]) (congrArg (fun z => [Value.int z]) ej) ?_
      match j, hj with
      | 0, _ =>
        obtain ⟨r, M1, M2, e1, q, e2, hp⟩ := hg.2.2.1 (xs (Int32.ofNat (6 * k) + 1).toNatClampNeg) (xs (Int32.ofNat (6 * k) + 2).toNatClampNeg) (xs (Int32.ofNat (6 * k) + 3).toNatClampNeg) (xs (Int32.ofNat (6 * k) + 4).toNatClampNeg) (xs (Int32.ofNat (6 * k) + 5).toNatClampNeg)
        exact a_tableIn 156 dL_law_33 (by decide +kernel) (by decide +kernel) (by first | rfl | decide +kernel) (by decide) (lg_c0 h5 hg.1 e1 q e2 (hend M2 hp))
      | 1, _ =>
        obtain ⟨r, M1, M2, e1, q, e2, hp⟩ := hg.2.2.2.1 (xs (Int32.ofNat (6 * k) + 1).toNatClampNeg)
        exact a_tableIn 219 dL_law_33 (by decide +kernel) (by decide +kernel) (by first | rfl | decide +kernel) (by decide) (lg_c1 h5 hg.1 e1 q e2 (hend M2 hp))
      | 2, _ =>
        obtain ⟨r, M1, M2, e1, q, e2, hp⟩ := hg.2.2.2.2.1 (xs (Int32.ofNat (6 * k) + 1).toNatClampNeg)
        exact a_tableIn 242 dL_law_33 (by decide +kernel) (by decide +kernel) (by first | rfl | decide +kernel) (by decide) (lg_c2 h5 hg.1 e1 q e2 (hend M2 hp))
      | 3, _ =>
        obtain ⟨r, M1, M2, e1, q, e2, hp⟩ := hg.2.2.2.2.2.1 (xs (Int32.ofNat (6 * k) + 1).toNatClampNeg) (xs (Int32.ofNat (6 * k) + 2).toNatClampNeg)
        exact a_tableIn 265 dL_law_33 (by decide +kernel) (by decide +kernel) (by first | rfl | decide +kernel) (by decide) (lg_c3 h5 hg.1 e1 q e2 (hend M2 hp))
      | 4, _ =>
        obtain ⟨r, M1, M2, e1, q, e2, hp⟩ := hg.2.2.2.2.2.2.1 (xs (Int32.ofNat (6 * k) + 1).toNatClampNeg)
        exact a_tableIn 298 dL_law_33 (by decide +kernel) (by decide +kernel) (by first | rfl | decide +kernel) (by decide) (lg_c4 h5 hg.1 e1 q e2 (hend M2 hp))
      | 5, _ =>
        obtain ⟨r, M1, M2, e1, q, e2, hp⟩ := hg.2.2.2.2.2.2.2.1 (xs (Int32.ofNat (6 * k) + 1).toNatClampNeg)
        exact a_tableIn 321 dL_law_33 (by decide +kernel) (by decide +kernel) (by first | rfl | decide +kernel) (by decide) (lg_c5 h5 hg.1 e1 q e2 (hend M2 hp))
      | 6, _ =>
        obtain ⟨r, M1, M2, e1, q, e2, hp⟩ := hg.2.2.2.2.2.2.2.2.1 (xs (Int32.ofNat (6 * k) + 1).toNatClampNeg)
        exact a_tableIn 344 dL_law_33 (by decide +kernel) (by decide +kernel) (by first | rfl | decide +kernel) (by decide) (lg_c6 h5 hg.1 e1 q e2 (hend M2 hp))
      | 7, _ =>
        obtain ⟨r, M1, M2, e1, q, e2, hp⟩ := hg.2.2.2.2.2.2.2.2.2.1 (xs (Int32.ofNat (6 * k) + 1).toNatClampNeg) (xs (Int32.ofNat (6 * k) + 2).toNatClampNeg) (xs (Int32.ofNat (6 * k) + 3).toNatClampNeg)
        exact a_tableIn 367 dL_law_33 (by decide +kernel) (by decide +kernel) (by first | rfl | decide +kernel) (by decide) (lg_c7 h5 hg.1 e1 q e2 (hend M2 hp))
      | 8, _ =>
        obtain ⟨r, M1, M2, e1, q, e2, hp⟩ := hg.2.2.2.2.2.2.2.2.2.2.1 (xs (Int32.ofNat (6 * k) + 1).toNatClampNeg)
        exact a_tableIn 410 dL_law_33 (by decide +kernel) (by decide +kernel) (by first | rfl | decide +kernel) (by decide) (lg_c8 h5 hg.1 e1 q e2 (hend M2 hp))
      | 9, _ =>
        obtain ⟨r, M1, M2, e1, q, e2, hp⟩ := hg.2.2.2.2.2.2.2.2.2.2.2.1 (xs (Int32.ofNat (6 * k) + 1).toNatClampNeg) (xs (Int32.ofNat (6 * k) + 2).toNatClampNeg) (xs (Int32.ofNat (6 * k) + 3).toNatClampNeg)
        exact a_tableIn 433 dL_law_33 (by decide +kernel) (by decide +kernel) (by first | rfl | decide +kernel) (by decide) (lg_c9 h5 hg.1 e1 q e2 (hend M2 hp))
      | 10, _ =>
        obtain ⟨r, M1, M2, e1, q, e2, hp⟩ := hg.2.2.2.2.2.2.2.2.2.2.2.2.1 (xs (Int32.ofNat (6 * k) + 1).toNatClampNeg) (xs (Int32.ofNat (6 * k) + 2).toNatClampNeg)
        exact a_tableIn 476 dL_law_33 (by decide +kernel) (by decide +kernel) (by first | rfl | decide +kernel) (by decide) (lg_c10 h5 hg.1 e1 q e2 (hend M2 hp))
      | 11, _ =>
        obtain ⟨r, M1, M2, e1, q, e2, hp⟩ := hg.2.2.2.2.2.2.2.2.2.2.2.2.2.1 (xs (Int32.ofNat (6 * k) + 1).toNatClampNeg) (xs (Int32.ofNat (6 * k) + 2).toNatClampNeg)
        exact a_tableIn 509 dL_law_33 (by decide +kernel) (by decide +kernel) (by first | rfl | decide +kernel) (by decide) (lg_c11 h5 hg.1 e1 q e2 (hend M2 hp))
      | 12, _ =>
        obtain ⟨r, M1, M2, e1, q, e2, hp⟩ := hg.2.2.2.2.2.2.2.2.2.2.2.2.2.2.1 (xs (Int32.ofNat (6 * k) + 1).toNatClampNeg) (xs (Int32.ofNat (6 * k) + 2).toNatClampNeg)
        exact a_tableIn 542 dL_law_33 (by decide +kernel) (by decide +kernel) (by first | rfl | decide +kernel) (by decide) (lg_c12 h5 hg.1 e1 q e2 (hend M2 hp))
      | 13, _ =>
        obtain ⟨r, M1, M2, e1, q, e2, hp⟩ := hg.2.2.2.2.2.2.2.2.2.2.2.2.2.2.2.1 (xs (Int32.ofNat (6 * k) + 1).toNatClampNeg)
        exact a_tableIn 575 dL_law_33 (by decide +kernel) (by decide +kernel) (by first | rfl | decide +kernel) (by decide) (lg_c13 h5 hg.1 e1 q e2 (hend M2 hp))
      | 14, _ =>
        obtain ⟨r, M1, M2, e1, q, e2, hp⟩ := hg.2.2.2.2.2.2.2.2.2.2.2.2.2.2.2.2.1 (xs (Int32.ofNat (6 * k) + 1).toNatClampNeg)
        exact a_tableIn 598 dL_law_33 (by decide +kernel) (by decide +kernel) (by first | rfl | decide +kernel) (by decide) (lg_c14 h5 hg.1 e1 q e2 (hend M2 hp))
      | 15, _ =>
        obtain ⟨r, M1, M2, e1, q, e2, hp⟩ := hg.2.2.2.2.2.2.2.2.2.2.2.2.2.2.2.2.2.1 (xs (Int32.ofNat (6 * k) + 1).toNatClampNeg)
        exact a_tableIn 621 dL_law_33 (by decide +kernel) (by decide +kernel) (by first | rfl | decide +kernel) (by decide) (lg_c15 h5 hg.1 e1 q e2 (hend M2 hp))
      | 16, _ =>
        obtain ⟨r, M1, M2, e1, q, e2, hp⟩ := hg.2.2.2.2.2.2.2.2.2.2.2.2.2.2.2.2.2.2.1 (xs (Int32.ofNat (6 * k) + 1).toNatClampNeg) (xs (Int32.ofNat (6 * k) + 2).toNatClampNeg) (xs (Int32.ofNat (6 * k) + 3).toNatClampNeg) (xs (Int32.ofNat (6 * k) + 4).toNatClampNeg)
        exact a_tableIn 644 dL_law_33 (by decide +kernel) (by decide +kernel) (by first | rfl | decide +kernel) (by decide) (lg_c16 h5 hg.1 e1 q e2 (hend M2 hp))
      | 17, _ =>
        obtain ⟨r, M1, M2, e1, q, e2, hp⟩ := hg.2.2.2.2.2.2.2.2.2.2.2.2.2.2.2.2.2.2.2.1 (xs (Int32.ofNat (6 * k) + 1).toNatClampNeg)
        exact a_tableIn 697 dL_law_33 (by decide +kernel) (by decide +kernel) (by first | rfl | decide +kernel) (by decide) (lg_c17 h5 hg.1 e1 q e2 (hend M2 hp))
      | 18, _ =>
        obtain ⟨r, M1, M2, e1, q, e2, hp⟩ := hg.2.2.2.2.2.2.2.2.2.2.2.2.2.2.2.2.2.2.2.2.1 (xs (Int32.ofNat (6 * k) + 1).toNatClampNeg) (xs (Int32.ofNat (6 * k) + 2).toNatClampNeg) (xs (Int32.ofNat (6 * k) + 3).toNatClampNeg)
        exact a_tableIn 720 dL_law_33 (by decide +kernel) (by decide +kernel) (by first | rfl | decide +kernel) (by decide) (lg_c18 h5 hg.1 e1 q e2 (hend M2 hp))
      | 19, _ =>
        obtain ⟨r, M1, M2, e1, q, e2, hp⟩ := hg.2.2.2.2.2.2.2.2.2.2.2.2.2.2.2.2.2.2.2.2.2.1 (xs (Int32.ofNat (6 * k) + 1).toNatClampNeg) (xs (Int32.ofNat (6 * k) + 2).toNatClampNeg) (xs (Int32.ofNat (6 * k) + 3).toNatClampNeg)
        exact a_tableIn 763 dL_law_33 (by decide +kernel) (by decide +kernel) (by first | rfl | decide +kernel) (by decide) (lg_c19 h5 hg.1 e1 q e2 (hend M2 hp))
      | 20, _ =>
        obtain ⟨r, M1, M2, e1, q, e2, hp⟩ := hg.2.2.2.2.2.2.2.2.2.2.2.2.2.2.2.2.2.2.2.2.2.2.1 (xs (Int32.ofNat (6 * k) + 1).toNatClampNeg) (xs (Int32.ofNat (6 * k) + 2).toNatClampNeg)
        exact a_tableIn 806 dL_law_33 (by decide +kernel) (by decide +kernel) (by first | rfl | decide +kernel) (by decide) (lg_c20 h5 hg.1 e1 q e2 (hend M2 hp))
      | 21, _ =>
        obtain ⟨r, M1, M2, e1, q, e2, hp⟩ := hg.2.2.2.2.2.2.2.2.2.2.2.2.2.2.2.2.2.2.2.2.2.2.2.1 (xs (Int32.ofNat (6 * k) + 1).toNatClampNeg) (xs (Int32.ofNat (6 * k) + 2).toNatClampNeg)
        exact a_tableIn 839 dL_law_33 (by decide +kernel) (by decide +kernel) (by first | rfl | decide +kernel) (by decide) (lg_c21 h5 hg.1 e1 q e2 (hend M2 hp))
      | 22, _ =>
        obtain ⟨r, M1, M2, e1, q, e2, hp⟩ := hg.2.2.2.2.2.2.2.2.2.2.2.2.2.2.2.2.2.2.2.2.2.2.2.2.1 (xs (Int32.ofNat (6 * k) + 1).toNatClampNeg)
        exact a_tableIn 872 dL_law_33 (by decide +kernel) (by decide +kernel) (by first | rfl | decide +kernel) (by decide) (lg_c22 h5 hg.1 e1 q e2 (hend M2 hp))
      | 23, _ =>
        obtain ⟨r, M1, M2, e1, q, e2, hp⟩ := hg.2.2.2.2.2.2.2.2.2.2.2.2.2.2.2.2.2.2.2.2.2.2.2.2.2.1 
        exact a_tableIn 895 dL_law_33 (by decide +kernel) (by decide +kernel) (by first | rfl | decide +kernel) (by decide) (lg_c23 h5 hg.1 e1 q e2 (hend M2 hp))
      | 24, _ =>
        obtain ⟨r, M1, M2, e1, q, e2, hp⟩ := hg.2.2.2.2.2.2.2.2.2.2.2.2.2.2.2.2.2.2.2.2.2.2.2.2.2.2.1 (xs (Int32.ofNat (6 * k) + 1).toNatClampNeg)
        exact a_tableIn 908 dL_law_33 (by decide +kernel) (by decide +kernel) (by first | rfl | decide +kernel) (by decide) (lg_c24 h5 hg.1 e1 q e2 (hend M2 hp))
      | 25, _ =>
        obtain ⟨r, M1, M2, e1, q, e2, hp⟩ := hg.2.2.2.2.2.2.2.2.2.2.2.2.2.2.2.2.2.2.2.2.2.2.2.2.2.2.2.1 
        exact a_tableIn 931 dL_law_33 (by decide +kernel) (by decide +kernel) (by first | rfl | decide +kernel) (by decide) (lg_c25 h5 hg.1 e1 q e2 (hend M2 hp))
      | 26, _ =>
        obtain ⟨r, M1, M2, e1, q, e2, hp⟩ := hg.2.2.2.2.2.2.2.2.2.2.2.2.2.2.2.2.2.2.2.2.2.2.2.2.2.2.2.2 
        exact a_tableIn 944 dL_law_33 (by decide +kernel) (by decide +kernel) (by first | rfl | decide +kernel) (by decide) (lg_c26 h5 hg.1 e1 q e2 (hend M2 hp))
      | 27, _ => exact a_tableOut 957 dL_law_33 (by decide +kernel) (by decide) (hend M hg.2.1)
      | 28, _ => exact a_tableOut 957 dL_law_33 (by decide +kernel) (by decide) (hend M hg.2.1)
      | 29, _ => exact a_tableOut 957 dL_law_33 (by decide +kernel) (by decide) (hend M hg.2.1)
      | 30, _ => exact a_tableOut 957 dL_law_33 (by decide +kernel) (by decide) (hend M hg.2.1)
      | 31, _ => exact a_tableOut 957 dL_law_33 (by decide +kernel) (by decide) (hend M hg.2.1)
      | j + 32, hj => exact absurd hj (by omega)
set_option maxHeartbeats 4000000 in
/-- the law's body over the abstract machine, from its entry -/
theorem lg_aw {P : Nat → Mem → Prop} (hG : Good P) (hP0 : ∀ M, Cw 126 Lj133 fs42 gs31 M → P 0 M) {L : Nat} {xs : Nat → Int32} (hL : L ≤ 3072) {M : Mem} (h0 : Cw 0 Lj0 fs0 gs0 M) : AW (L, xs) (RL, cL_law, 4, (some .boolean), false, true, 2048) 600000 7302250 0 [(0, .ref 1000000)] [] M (fun v _ => v = some (.int 1)) := by
  refine a_new (ci := 10) (bc := 599999) (bs := 7302232) dL_law_0 rfl (by decide) cl_L_7 it_X10 ini_X10 (by rw [h0.1]; decide) (by rw [h0.1]; decide) ?_
  rw [h0.1]
  have h1 : Cw 1 Lj0 fs0 gs0 (nO M 10) := cw_nO h0 rfl
  generalize (nO M 10) = M1 at h1 ⊢
  refine a_dup dL_law_3 rfl ?_
  refine a_callI (As := []) (st := [.ref 0]) (a := 0) (bc := 599911) (bs := 7235853) (mc := 88) (ms := 66379) false dL_law_4 mw_X10_init rfl (Or.inl ⟨rfl, ml_L_9⟩) im_X10_init rfl (cw_l h1 (by decide)) rfl (Nat.le_of_ble_eq_true rfl) (b_X10_init_0_1 (fr := 2041) h1) (fun v M2 hq => ?_)
  obtain ⟨rfl, h2⟩ := hq
  refine a_astore_n dL_law_7 rfl (Nat.le_of_ble_eq_true rfl) (lv2 := [(1, .ref 0), (0, .ref 1000000)]) rfl ?_
  refine a_new (ci := 11) (bc := 599910) (bs := 7235792) dL_law_8 rfl (by decide) cl_L_10 it_X11 ini_X11 (by rw [h2.1]; decide) (by rw [h2.1]; decide) ?_
  rw [h2.1]
  have h3 : Cw 90 Lj97 fs32 gs31 (nO M2 11) := cw_nO h2 rfl
  generalize (nO M2 11) = M3 at h3 ⊢
  refine a_dup dL_law_11 rfl ?_
  refine a_callI (As := []) (st := [.ref 89]) (a := 89) (bc := 599874) (bs := 7082612) (mc := 36) (ms := 153180) false dL_law_12 mw_X11_init rfl (Or.inl ⟨rfl, ml_L_12⟩) im_X11_init rfl (cw_l h3 (by decide)) rfl (Nat.le_of_ble_eq_true rfl) (b_X11_init_89_90 (fr := 2041) h3) (fun v M4 hq => ?_)
  obtain ⟨rfl, h4⟩ := hq
  refine a_astore_n dL_law_15 rfl (Nat.le_of_ble_eq_true rfl) (lv2 := [(2, .ref 89), (1, .ref 0), (0, .ref 1000000)]) rfl ?_
  refine a_iconst (v := 0) dL_law_16 (by decide) ?_
  refine a_istore_n dL_law_17 rfl (Nat.le_of_ble_eq_true rfl) (lv2 := [(3, .int 0), (2, .ref 89), (1, .ref 0), (0, .ref 1000000)]) rfl ?_
  exact aw_wk (lg_head hG hL 513 0 rfl (by omega) (hP0 _ h4))
