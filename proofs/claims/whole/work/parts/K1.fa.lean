/-! THE DECIDER in the class: what is asked, what is granted -/
section FA1
variable {M M1 : Mem} {m n g : Nat} {kd lf rt : Nat → Nat}
set_option maxHeartbeats 2000000 in
theorem fa_38 (hW : Wd M) {i : Nat} (hi : i < 40) {L R : Int64} (h82 : M.2.2.2.1 82 i = L) (h83 : M.2.2.2.1 83 i = R) (a g : Int64) (F : Bool) : lp (st_X0_findAsked n) (38, [.ref 80, .long a, .long g, .int (nI i), .int (bI F)], M) = lp (st_X0_findAsked n) (105, [.ref 80, .long (if b64 a i then a ||| (if F then R else L ||| R) else a), .long (if b64 a i then g ||| (if F then L else 0) else g), .int (nI i), .int (bI F)], M) := by
  have one : ((1 : Int32) = 0) = False := eq_false (by decide)
  have zer : ((0 : Int32) = 0) = True := eq_true rfl
  refine (ge_X0_findAsked_38 n 80 a g (nI i) (bI F) M).trans ?_
  unfold T_X0_findAsked_38
  cases hA : b64 a i with
  | false =>
    have qA : (b64 a i = false) = True := eq_true hA
    simp only [cm_sh (show i < 64 by omega), qA, ↓reduceIte, Bool.false_eq_true]
  | true =>
    have qA : (b64 a i = false) = False := eq_false (by rw [hA]; exact Bool.noConfusion)
    cases F with
    | false =>
      simp (disch := omega) only [cm_sh (show i < 64 by omega), qA, ↓reduceIte, bI_f, zer, Bool.false_eq_true, ↓gd_pos (fO80 hW), ↓bnd_of (r_80_2 hW), ↓gd_pos (fA82 hW hi), ↓bnd_of (r_80_3 hW), ↓gd_pos (fA83 hW hi), nI_z, h82, h83]
      refine (ge_X0_findAsked_82 n 80 g (nI i) 0 (L ||| R) a M).trans ?_
      unfold T_X0_findAsked_82
      simp only [zer, ↓reduceIte]
    | true =>
      simp (disch := omega) only [cm_sh (show i < 64 by omega), qA, ↓reduceIte, bI_t, one, ↓gd_pos (fO80 hW), ↓bnd_of (r_80_3 hW), ↓gd_pos (fA83 hW hi), nI_z, h83]
      refine (ge_X0_findAsked_82 n 80 g (nI i) 1 R a M).trans ?_
      unfold T_X0_findAsked_82
      simp (disch := omega) only [one, ↓reduceIte, ↓gd_pos (fO80 hW), ↓bnd_of (r_80_2 hW), ↓gd_pos (fA82 hW hi), nI_z, h82]
set_option maxHeartbeats 2000000 in
theorem fa_105 (hW : Wd M) {i : Nat} (hi : i < 40) {L R : Int64} (h82 : M.2.2.2.1 82 i = L) (h83 : M.2.2.2.1 83 i = R) (a g : Int64) (F : Bool) : lp (st_X0_findAsked n) (105, [.ref 80, .long a, .long g, .int (nI i), .int (bI F)], M) = lp (st_X0_findAsked n) (16, [.ref 80, .long (if b64 g i then a ||| (if F then L else 0) else a), .long (if b64 g i then g ||| (if F then R else L ||| R) else g), .int (dnI i)], M) := by
  have one : ((1 : Int32) = 0) = False := eq_false (by decide)
  have zer : ((0 : Int32) = 0) = True := eq_true rfl
  refine (ge_X0_findAsked_105 n 80 a g (nI i) (bI F) M).trans ?_
  unfold T_X0_findAsked_105
  cases hA : b64 g i with
  | false =>
    have qA : (b64 g i = false) = True := eq_true hA
    simp only [cm_sh (show i < 64 by omega), qA, ↓reduceIte, Bool.false_eq_true, dnI_m]
  | true =>
    have qA : (b64 g i = false) = False := eq_false (by rw [hA]; exact Bool.noConfusion)
    cases F with
    | false =>
      simp (disch := omega) only [cm_sh (show i < 64 by omega), qA, ↓reduceIte, bI_f, zer, Bool.false_eq_true, ↓gd_pos (fO80 hW), ↓bnd_of (r_80_2 hW), ↓gd_pos (fA82 hW hi), ↓bnd_of (r_80_3 hW), ↓gd_pos (fA83 hW hi), nI_z, h82, h83]
      refine (ge_X0_findAsked_149 n 80 a (nI i) 0 (L ||| R) g M).trans ?_
      unfold T_X0_findAsked_149
      simp only [zer, ↓reduceIte, dnI_m]
    | true =>
      simp (disch := omega) only [cm_sh (show i < 64 by omega), qA, ↓reduceIte, bI_t, one, ↓gd_pos (fO80 hW), ↓bnd_of (r_80_3 hW), ↓gd_pos (fA83 hW hi), nI_z, h83]
      refine (ge_X0_findAsked_149 n 80 a (nI i) 1 R g M).trans ?_
      unfold T_X0_findAsked_149
      simp (disch := omega) only [one, ↓reduceIte, ↓gd_pos (fO80 hW), ↓bnd_of (r_80_2 hW), ↓gd_pos (fA82 hW hi), nI_z, h82, dnI_m]
theorem fa_16 (hW : Wd M) (hD : DcP M m kd lf rt) {i : Nat} (hi : i < m) (h11 : kd i ≤ 11) (a g : Int64) : lp (st_X0_findAsked n) (16, [.ref 80, .long a, .long g, .int (nI i)], M) = lp (st_X0_findAsked n) (38, [.ref 80, .long a, .long g, .int (nI i), .int (bI (decide (kd i = 9)))], M) := by
  have h40 := hD.2.1
  obtain ⟨k1, -⟩ := hD.2.2.1 i hi
  have h0 : (nI i < (0 : Int32)) = False := nI_lt0 (by omega)
  refine (ge_X0_findAsked_16 n 80 a g (nI i) M).trans ?_
  unfold T_X0_findAsked_16
  by_cases e9 : kd i = 9
  · have q9 : (nI (kd i) = (9 : Int32)) = True := eq_true (by rw [e9]; rfl)
    simp (disch := omega) only [h0, ↓reduceIte, ↓gd_pos (fO80 hW), ↓bnd_of (r_80_1 hW), ↓gd_pos (fA81 hW (show i < 40 by omega)), nI_z, k1, q9, decide_eq_true e9, bI_t]
  · have q9 : (nI (kd i) = (9 : Int32)) = False := eq_false (fun q => e9 ((nI_eq (by omega) (by omega)).mp q))
    simp (disch := omega) only [h0, ↓reduceIte, ↓gd_pos (fO80 hW), ↓bnd_of (r_80_1 hW), ↓gd_pos (fA81 hW (show i < 40 by omega)), nI_z, k1, q9, decide_eq_false e9, bI_f]
end FA1
