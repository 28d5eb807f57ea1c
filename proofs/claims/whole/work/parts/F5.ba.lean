/-! SPELLING: a formula's bytes, in the class -/
theorem lQ_toInt {a : Nat} (h : a < 9223372036854775808) : (lN a).toInt = (a : Int) := Int64.toInt_ofNat_of_lt (by omega)
theorem lN_lt_ {a b : Nat} (ha : a < 9223372036854775808) (hb : b < 9223372036854775808) : (lN a < lN b) = (a < b) := by
  rw [Int64.lt_iff_toInt_lt, lQ_toInt ha, lQ_toInt hb]
  exact propext (by omega)
theorem lN_eq_ {a b : Nat} (ha : a < 9223372036854775808) (hb : b < 9223372036854775808) : (lN a = lN b) = (a = b) := propext (fb_lN_inj (by omega) (by omega))
theorem lQ_add (a b : Nat) : lN a + lN b = lN (a + b) := (Int64.ofNat_add a b).symm
theorem lQ_sub {a b : Nat} (h : b ≤ a) : lN a - lN b = lN (a - b) := by
  have : lN a = lN (a - b) + lN b := by rw [lQ_add, show a - b + b = a by omega]
  rw [this]
  exact Int64.add_sub_cancel _ _
theorem nI_long {a : Nat} (h : a < 2147483648) : (nI a).toInt64 = lN a := by
  apply Int64.toInt_inj.mp
  rw [Int32.toInt_toInt64, nI_toInt (by omega), lQ_toInt (by omega)]
theorem lN_int {a : Nat} (h : a < 2147483648) : (lN a).toInt32 = nI a := by
  apply Int32.toInt_inj.mp
  rw [Int64.toInt_toInt32, lQ_toInt (by omega), nI_toInt (by omega)]
  exact Int.bmod_eq_of_le (by omega) (by omega)
theorem lgc_ge (x y : Int64) : (0 ≤ lg_cmp x y) = ¬ (x < y) := propext ⟨fun h q => absurd ((lgc_lt x y).mpr q) (Int32.not_lt.mpr h), fun h => Int32.not_lt.mp (fun q => h ((lgc_lt x y).mp q))⟩
section BA
variable {M : Mem} {c : Nat}
theorem c_wordLetter (k : Nat) {w i : Nat} (hw : w < 22) (hi : i < wlen w) : f_X10_wordLetter (k + 5) (nI w) (nI i) M = some (nI (wch w i), M) := by
  have h1 := (wch_is w hw).1
  have h2 := (wch_is w hw).2 i hi
  have e := c_wordLength (M := M) (k + 4) hw
  rw [h1.2.2] at e
  have hv : vp_in (nI (w * 5 + i)) 110 := vp_nI (by omega) (by omega)
  unfold f_X10_wordLetter b_X10_wordLetter
  obtain ⟨n, hn⟩ : ∃ n, n = k + 4 := ⟨_, rfl⟩
  rw [show k + 5 = n + 1 by omega]
  rw [← hn] at e
  have h4 : 4 ≤ n + 1 := by omega
  simp (disch := omega) only [T_X10_wordLetter_0, nI_lt0, if_false, bnd2_s, cal_s, e, nI_lt_, hi, if_true, show (5 : Int32) = nI 5 from rfl, nI_mul, nI_add, hv, and_true, gd_pos h4, nI_z, h2.2]
theorem gtN_a (A : List Nat) {r : Nat} (h : r < A.length) (B : List Nat) : gtN (A ++ B) r = nI A[r] := by
  unfold gtN
  rw [List.getElem?_append_left h, List.getElem?_eq_getElem h]
theorem gtN_b (A : List Nat) {r : Nat} (h : A.length ≤ r) (B : List Nat) : gtN (A ++ B) r = gtN B (r - A.length) := by
  unfold gtN
  rw [List.getElem?_append_right h]
theorem gtN_c (x : Nat) (B : List Nat) : gtN (x :: B) 0 = nI x := rfl
theorem gtN_d (x : Nat) (B : List Nat) {r : Nat} (h : 0 < r) : gtN (x :: B) r = gtN B (r - 1) := by
  obtain ⟨s, rfl⟩ : ∃ s, r = s + 1 := ⟨r - 1, by omega⟩
  rfl
theorem gtN_l {A : List Nat} {r : Nat} (h : r < A.length) (B : List Nat) : gtN (A ++ B) r = gtN A r := by
  unfold gtN
  rw [List.getElem?_append_left h]
theorem wrd_get {w r : Nat} (h : r < (wrd w).length) : (wrd w)[r] = wch w r := by simp [wrd]
theorem TabC.long (hT : TabC M c) {i : Nat} (hi : i < c) : (fsp (dC M i)).length = blen (dC M i) := (fsp_len hT.2.2.1 (by have := hT.2.1; omega) i hi).1
set_option maxHeartbeats 1000000 in
theorem byteAt_loop (hW : Wd M) (hT : TabC M c) (k : Nat) : ∀ f t r, f < c → f + t < 5200 → blen (dC M f) < 4611686018427387904 → r < blen (dC M f) → lp (st_X1_byteAt (k + 6)) (30, [.ref 2, .int (nI f), .long (lN r), .int (nI t)], M) = some (gtN (fsp (dC M f)) r, M) := by
  have h5 := hT.2.1
  intro f
  induction f using Nat.strongRecOn with
  | ind f ih =>
  intro t r hf ht hb hr
  refine (ge_X1_byteAt_30 (k + 6) 2 _ _ _ M).trans ?_
  obtain ⟨n, hn⟩ : ∃ n, n = k + 5 := ⟨_, rfl⟩
  have e0 := c_kindOf hW hT n hf
  rw [show k + 6 = n + 1 by omega] at ih ⊢
  by_cases h9 : f < 9
  · have hk : M.2.2.1 3 f = nI f := hT.2.2.2.2.1 f h9
    rw [hk] at e0
    have e1 := c_wordLength (M := M) n (k := f) (by omega)
    have hw := (wch_is f (by omega)).1
    rw [hw.2.2] at e1
    rw [hT.leaf h9] at hr ⊢
    have hbl : blen (.arg f : Fm) = wlen f := by show wlN f = _; rw [wlN_is f (by omega)]
    rw [hbl] at hr
    have e2 := c_wordLetter (M := M) (n - 5) (w := f) (i := r) (by omega) hr
    rw [show n - 5 + 5 = n by omega] at e2
    have hlt : lN r < lN (wlen f) := by rw [lN_lt_ (by omega) (by omega)]; exact hr
    simp (disch := omega) only [T_X1_byteAt_30, show (5200 : Int32) = nI 5200 from rfl, nI_le_, W_2 hW, gd_true, fO, Nat.reduceLT, and_self, bnd2_s, cal_s, e0, e1, nI_long, lgc_ge, hlt, not_true_eq_false, if_false, lN_int, e2]
    rw [if_neg (by omega)]
    show _ = some (gtN (wrd f) r, M)
    have : r < (wrd f).length := by rw [wrd_len]; exact hr
    rw [show gtN (wrd f) r = nI (wch f r) by unfold gtN; rw [List.getElem?_eq_getElem this, wrd_get this]]
  · obtain ⟨j, a, b, h1, h2, ha, hb', q1, q2, q3, q4⟩ := hT.node (by omega) hf
    rw [q1] at e0
    have e1 := c_wordLength (M := M) n (k := j) (by omega)
    have hw := (wch_is j (by omega)).1
    rw [hw.2.2] at e1
    rw [q4] at hb hr ⊢
    rw [fsp_mk h1 h2]
    rw [blen_mw h1 h2] at hb hr
    have la := hT.long (i := a) (by omega)
    have lb := hT.long (i := b) (by omega)
    by_cases hrw : r < wlen j
    · have e2 := c_wordLetter (M := M) (n - 5) (w := j) (i := r) (by omega) hrw
      rw [show n - 5 + 5 = n by omega] at e2
      have hlt : lN r < lN (wlen j) := by rw [lN_lt_ (by omega) (by omega)]; exact hrw
      simp (disch := omega) only [T_X1_byteAt_30, show (5200 : Int32) = nI 5200 from rfl, nI_le_, W_2 hW, gd_true, fO, Nat.reduceLT, and_self, bnd2_s, cal_s, e0, e1, nI_long, lgc_ge, hlt, not_true_eq_false, if_false, lN_int, e2]
      rw [if_neg (by omega)]
      have hl : r < (wrd j).length := by rw [wrd_len]; exact hrw
      rw [gtN_a _ hl, wrd_get hl]
    · have hge : ¬ lN r < lN (wlen j) := by rw [lN_lt_ (by omega) (by omega)]; exact hrw
      have hg1 : gtN (wrd j ++ 32 :: (fsp (dC M a) ++ 32 :: fsp (dC M b))) r = gtN (32 :: (fsp (dC M a) ++ 32 :: fsp (dC M b))) (r - wlen j) := by rw [gtN_b _ (by rw [wrd_len]; omega), wrd_len]
      rw [hg1]
      have es : lN r - lN (wlen j) = lN (r - wlen j) := lQ_sub (by omega)
      by_cases hr0 : r = wlen j
      · have e3 : lN (r - wlen j) - 1 < 0 := by rw [hr0, Nat.sub_self]; decide
        simp (disch := omega) only [T_X1_byteAt_30, show (5200 : Int32) = nI 5200 from rfl, nI_le_, W_2 hW, gd_true, fO, Nat.reduceLT, and_self, bnd2_s, cal_s, e0, e1, nI_long, lgc_ge, hge, not_false_eq_true, if_true, lgc_lt, es, e3]
        rw [if_neg (by omega), show r - wlen j = 0 by omega, gtN_c]
        rfl
      · obtain ⟨s, hs⟩ : ∃ s, s = r - wlen j - 1 := ⟨_, rfl⟩
        have es2 : lN (r - wlen j) - 1 = lN s := by rw [hs]; exact lQ_sub (b := 1) (by omega)
        have hg2 : gtN (32 :: (fsp (dC M a) ++ 32 :: fsp (dC M b))) (r - wlen j) = gtN (fsp (dC M a) ++ 32 :: fsp (dC M b)) s := by rw [gtN_d _ _ (by omega), hs]
        rw [hg2]
        have e3 : ¬ lN s < 0 := by rw [show (0 : Int64) = lN 0 from rfl, lN_lt_ (by omega) (by omega)]; omega
        have e4 := c_leftOf hW hT n hf
        rw [q2] at e4
        have e5 := c_bytesOf0 hW hT.1 h5.2 n (i := a) (by omega)
        rw [show M.2.2.2.1 6 a = lN (blen (dC M a)) from hT.2.2.2.2.2.2.2.2 a (by omega)] at e5
        by_cases hsA : s = blen (dC M a)
        · have e6 : lg_cmp (lN s) (lN (blen (dC M a))) = 0 := (lg_cmp0 _ _).mpr (by rw [hsA])
          simp (disch := omega) only [T_X1_byteAt_30, show (5200 : Int32) = nI 5200 from rfl, nI_le_, W_2 hW, gd_true, fO, Nat.reduceLT, and_self, bnd2_s, cal_s, e0, e1, nI_long, lgc_ge, hge, not_false_eq_true, if_true, lgc_lt, es, es2, e3, if_false, e4, e5, e6]
          rw [if_neg (by omega), gtN_b _ (by omega), show s - (fsp (dC M a)).length = 0 by omega, gtN_c]
          rfl
        · have e6 : ¬ lg_cmp (lN s) (lN (blen (dC M a))) = 0 := fun q => hsA (by have := (lg_cmp0 _ _).mp q; rwa [lN_eq_ (by omega) (by omega)] at this)
          by_cases hsl : s < blen (dC M a)
          · have e7 : lN s < lN (blen (dC M a)) := by rw [lN_lt_ (by omega) (by omega)]; exact hsl
            have e8 := ih a ha (t + 1) s (by omega) (by omega) (by omega) hsl
            simp (disch := omega) only [T_X1_byteAt_30, show (5200 : Int32) = nI 5200 from rfl, nI_le_, W_2 hW, gd_true, fO, Nat.reduceLT, and_self, bnd2_s, cal_s, e0, e1, nI_long, lgc_ge, hge, not_false_eq_true, not_true_eq_false, if_true, lgc_lt, es, es2, e3, if_false, e4, e5, e6, e7, nI_1]
            rw [if_neg (by omega), gtN_l (by omega)]
            exact e8
          · have e7 : ¬ lN s < lN (blen (dC M a)) := by rw [lN_lt_ (by omega) (by omega)]; exact hsl
            have e8 := ih b hb' (t + 1) (s - blen (dC M a) - 1) (by omega) (by omega) (by omega) (by omega)
            have e9 := c_rightOf hW hT n hf
            rw [q3] at e9
            have es3 : lN s - lN (blen (dC M a)) - 1 = lN (s - blen (dC M a) - 1) := by rw [lQ_sub (by omega)]; exact lQ_sub (b := 1) (by omega)
            simp (disch := omega) only [T_X1_byteAt_30, show (5200 : Int32) = nI 5200 from rfl, nI_le_, W_2 hW, gd_true, fO, Nat.reduceLT, and_self, bnd2_s, cal_s, e0, e1, nI_long, lgc_ge, hge, not_false_eq_true, not_true_eq_false, if_true, lgc_lt, es, es2, e3, if_false, e4, e5, e6, e7, nI_1, e9, es3]
            rw [if_neg (by omega), gtN_b _ (by omega), gtN_d _ _ (by omega), la]
            exact e8
theorem c_byteAt (hW : Wd M) (hT : TabC M c) (k : Nat) {f r : Nat} (hf : f < c) (hb : blen (dC M f) < 4611686018427387904) (hr : r < 4611686018427387904) : f_X1_byteAt (k + 6) 2 (nI f) (lN r) M = some (gtN (fsp (dC M f)) r, M) := by
  have h5 := hT.2.1
  have la := hT.long hf
  have e5 := c_bytesOf0 hW hT.1 h5.2 (k + 5) hf
  rw [show M.2.2.2.1 6 f = lN (blen (dC M f)) from hT.2.2.2.2.2.2.2.2 f hf] at e5
  refine (ge_X1_byteAt_0 (k + 6) 2 _ _ M).trans ?_
  have e3 : ¬ lN r < 0 := by rw [show (0 : Int64) = lN 0 from rfl, lN_lt_ (by omega) (by omega)]; omega
  obtain ⟨n, hn⟩ : ∃ n, n = k + 5 := ⟨_, rfl⟩
  rw [← hn] at e5
  by_cases h : r < blen (dC M f)
  · have e7 : lN r < lN (blen (dC M f)) := by rw [lN_lt_ (by omega) (by omega)]; exact h
    have e8 := byteAt_loop hW hT k f 0 r hf (by omega) hb h
    rw [show k + 6 = n + 1 by omega] at e8 ⊢
    simp (disch := omega) only [T_X1_byteAt_0, W_2 hW, gd_true, fO, Nat.reduceLT, and_self, bnd2_s, cal_s, lgc_lt, e3, if_false, e5, e7, if_true]
    exact e8
  · have e7 : ¬ lN r < lN (blen (dC M f)) := by rw [lN_lt_ (by omega) (by omega)]; exact h
    rw [show k + 6 = n + 1 by omega]
    simp (disch := omega) only [T_X1_byteAt_0, W_2 hW, gd_true, fO, Nat.reduceLT, and_self, bnd2_s, cal_s, lgc_lt, e3, if_false, e5, e7]
    unfold gtN
    rw [List.getElem?_eq_none (by omega)]
end BA
