/-! TRUTH in the class: 64 sets at once -/
def b64 (w : Int64) (j : Nat) : Bool := w.toBitVec.getLsbD j
theorem b64_or (a b : Int64) (j : Nat) : b64 (a ||| b) j = (b64 a j || b64 b j) := by
  unfold b64
  rw [Int64.toBitVec_or, BitVec.getLsbD_or]
theorem b64_and (a b : Int64) (j : Nat) : b64 (a &&& b) j = (b64 a j && b64 b j) := by
  unfold b64
  rw [Int64.toBitVec_and, BitVec.getLsbD_and]
theorem b64_m1 {j : Nat} (hj : j < 64) : b64 (-1) j = true := by
  unfold b64
  rw [show (-1 : Int64).toBitVec = BitVec.allOnes 64 by decide, BitVec.getLsbD_allOnes]
  exact decide_eq_true hj
theorem b64_not (a : Int64) {j : Nat} (hj : j < 64) : b64 (a ^^^ (-1)) j = !b64 a j := by
  have h := b64_m1 hj
  unfold b64 at h ⊢
  rw [Int64.toBitVec_xor, BitVec.getLsbD_xor, h, Bool.xor_true]
theorem b64_0 (j : Nat) : b64 0 j = false := by
  unfold b64
  rw [show (0 : Int64).toBitVec = 0#64 by decide, BitVec.getLsbD_zero]
theorem b64_ap : ∀ k, k < 6 → ∀ h, h < 4 → ∀ j, j < 64 → b64 (apF k) j = (h * 64 + j).testBit k := by decide +kernel
theorem b64_hi : ∀ k, k < 8 → 6 ≤ k → ∀ h, h < 4 → ∀ j, j < 64 → (((nI h >>> ((nI k - 6) &&& 31)) &&& 1) = 0 ↔ (h * 64 + j).testBit k = false) := by decide +kernel
/-- a set of numbers of formulas with their parts -/
def ClP (M : Mem) (c : Nat) (S : Nat → Prop) : Prop := ∀ v, S v → v < c ∧ ∀ j a b, 9 ≤ j → j ≤ 11 → a < v → b < v → dC M v = mkF j (dC M a) (dC M b) → S a ∧ S b
/-- the truths of the first so many parts -/
def TrT (M : Mem) (D : Nat → Fm) (S : Nat → Prop) (hi i : Nat) : Prop := ∀ u, S u → cP S u < i → ∀ j, j < 64 → b64 (M.2.2.2.1 79 (cP S u)) j = tv (hi * 64 + j) (D u)
section TO9
variable {M M1 : Mem} {c n : Nat} {S : Nat → Prop}
theorem SPt.cl {H : List (Nat × Fm)} {gf : Fm} (hT : TabC M c) : ClP M c (SPt M c H gf) := fun _ h => ⟨h.1, fun _ _ _ h1 h2 ha hb e => h.ch hT h1 h2 ha hb e⟩
theorem c_partAt (hW : Wd M) {m i : Nat} (hm : M.2.2.1 74 6 = nI m) (h4 : m ≤ 420) (hi : i < m) : f_X5_kindAt n 74 (nI i) M = some (M.2.2.1 76 i, M) ∧ f_X5_leftAt n 74 (nI i) M = some (M.2.2.1 77 i, M) ∧ f_X5_rightAt n 74 (nI i) M = some (M.2.2.1 78 i, M) ∧ f_X5_truthAt n 74 (nI i) M = some (M.2.2.2.1 79 i, M) := by
  have h0 : (nI i < (0 : Int32)) = False := nI_lt0 (by omega)
  have hle : (nI m ≤ nI i) = False := eq_false (by rw [nI_le_ (by omega) (by omega)]; omega)
  have h42 : ((420 : Int32) ≤ nI i) = False := eq_false (by rw [show (420 : Int32) = nI 420 from rfl, nI_le_ (by omega) (by omega)]; omega)
  have f76 : fA M 76 1 (nI i) := fA_C hW (by omega) (s_76 hW) (by omega) (by omega)
  have f77 : fA M 77 1 (nI i) := fA_C hW (by omega) (s_77 hW) (by omega) (by omega)
  have f78 : fA M 78 1 (nI i) := fA_C hW (by omega) (s_78 hW) (by omega) (by omega)
  have f79 : fA M 79 2 (nI i) := ⟨by rw [hW.1]; omega, 420, s_79 hW, vp_nI (by omega) (by omega)⟩
  have hO := fO74 hW
  have a1 : f_X5_kindAt n 74 (nI i) M = T_X5_kindAt_0 (fun v M => some (v, M)) none n 74 (nI i) M := rfl
  have a2 : f_X5_leftAt n 74 (nI i) M = T_X5_leftAt_0 (fun v M => some (v, M)) none n 74 (nI i) M := rfl
  have a3 : f_X5_rightAt n 74 (nI i) M = T_X5_rightAt_0 (fun v M => some (v, M)) none n 74 (nI i) M := rfl
  have a4 : f_X5_truthAt n 74 (nI i) M = T_X5_truthAt_0 (fun v M => some (v, M)) none n 74 (nI i) M := rfl
  rw [a1, a2, a3, a4]
  unfold T_X5_kindAt_0 T_X5_leftAt_0 T_X5_rightAt_0 T_X5_truthAt_0
  refine ⟨?_, ?_, ?_, ?_⟩
  · simp (disch := omega) only [h0, ↓reduceIte, ↓gd_pos hO, hm, hle, h42, ↓bnd_of (r_74_2 hW), ↓gd_pos f76, nI_z]
  · simp (disch := omega) only [h0, ↓reduceIte, ↓gd_pos hO, hm, hle, h42, ↓bnd_of (r_74_3 hW), ↓gd_pos f77, nI_z]
  · simp (disch := omega) only [h0, ↓reduceIte, ↓gd_pos hO, hm, hle, h42, ↓bnd_of (r_74_4 hW), ↓gd_pos f78, nI_z]
  · simp (disch := omega) only [h0, ↓reduceIte, ↓gd_pos hO, hm, hle, h42, ↓bnd_of (r_74_5 hW), ↓gd_pos f79, nI_z]
theorem SpV.to {x y : Int32} (h : SpV S x y) {a : Nat} (ha : a < 5200) (e : x = nI a) : y = nI (cP S a) := by
  rcases h with ⟨h1, -⟩ | ⟨b, h1, -, h3, h4⟩
  · rw [e] at h1
    exact absurd h1 (of_eq_false (nI_ne_m1 (by omega)))
  · rw [e] at h3
    have := (nI_eq (by omega) (by omega)).mp h3
    subst this
    exact h4
set_option maxHeartbeats 2000000 in
theorem c_truthOf (hW : Wd M) (hT : TabC M c) (hS : ClP M c S) (hP : PrS M S 5200) (h4 : cP S 5200 ≤ 420) {hi u : Nat} (hh : hi < 4) (hu : S u) (hTr : TrT M (dC M) S hi (cP S u)) (n : Nat) : ∃ w, f_X5_truthOf (n + 1) 74 (nI (cP S u)) (nI hi) M = some (w, M) ∧ ∀ j, j < 64 → b64 w j = tv (hi * 64 + j) (dC M u) := by
  have hc := hT.2.1
  obtain ⟨huc, hch⟩ := hS u hu
  have hr := cP_lt hu (show u < 5200 by omega)
  obtain ⟨k1, k2, k3, -⟩ := c_partAt (n := n) hW hP.1 h4 hr
  obtain ⟨-, p2, p3, p4⟩ := hP.2 u (by omega) hu
  rw [p2] at k1
  obtain ⟨r, hre⟩ : ∃ r, r = cP S u := ⟨_, rfl⟩
  rw [← hre] at k1 k2 k3 p3 p4 hTr ⊢
  have hO := fO74 hW
  have ee : f_X5_truthOf (n + 1) 74 (nI r) (nI hi) M = T_X5_truthOf_0 (fun c l M => lp (st_X5_truthOf (n + 1)) (c, l, M)) (fun v M => some (v, M)) none (n + 1) 74 (nI r) (nI hi) M := ge_X5_truthOf_0 (n + 1) 74 (nI r) (nI hi) M
  rw [ee]
  unfold T_X5_truthOf_0
  by_cases h9 : u < 9
  · have e1 := hT.2.2.2.2.1 u h9
    rw [e1] at k1
    rw [hT.leaf h9]
    by_cases h8 : u = 8
    · have q8 : (nI u = (8 : Int32)) = True := eq_true (by rw [h8]; rfl)
      refine ⟨0, ?_, fun j hj => ?_⟩
      · simp (disch := omega) only [↓gd_pos hO, ↓bnd2_of (show cal (n + 1) (fun zz => f_X5_kindAt zz 74 (nI r) M) = _ from k1), q8, ↓reduceIte]
      · rw [b64_0]
        show false = if u = 8 then false else _
        rw [if_pos h8]
    · have ne : ∀ k, k < 20 → u ≠ k → (nI u = nI k) = False := fun k hk h => eq_false (fun z => h ((nI_eq (by omega) (by omega)).mp z))
      have q8 : (nI u = (8 : Int32)) = False := ne 8 (by omega) h8
      have q9 : (nI u = (9 : Int32)) = False := ne 9 (by omega) (by omega)
      have q10 : (nI u = (10 : Int32)) = False := ne 10 (by omega) (by omega)
      have q11 : (nI u = (11 : Int32)) = False := ne 11 (by omega) (by omega)
      have q0 : (nI u < (0 : Int32)) = False := nI_lt0 (by omega)
      have ev : ∀ s, tv s (.arg u) = s.testBit u := fun s => by show (if u = 8 then false else s.testBit u) = _; rw [if_neg h8]
      by_cases h6 : u < 6
      · have q6 : ((6 : Int32) ≤ nI u) = False := eq_false (by rw [show (6 : Int32) = nI 6 from rfl, nI_le_ (by omega) (by omega)]; omega)
        refine ⟨apF u, ?_, fun j hj => ?_⟩
        · simp (disch := omega) only [↓gd_pos hO, ↓bnd2_of (show cal (n + 1) (fun zz => f_X5_kindAt zz 74 (nI r) M) = _ from k1), q8, q9, q10, q11, q0, q6, ↓reduceIte, ↓gd_pos (vp_nI h6 (by omega)), nI_z]
        · rw [ev, b64_ap u h6 hi hh j hj]
      · have q6 : ((6 : Int32) ≤ nI u) = True := eq_true (by rw [show (6 : Int32) = nI 6 from rfl, nI_le_ (by omega) (by omega)]; omega)
        by_cases hb : ((nI hi >>> ((nI u - 6) &&& 31)) &&& 1) = 0
        · refine ⟨0, ?_, fun j hj => ?_⟩
          · simp (disch := omega) only [↓gd_pos hO, ↓bnd2_of (show cal (n + 1) (fun zz => f_X5_kindAt zz 74 (nI r) M) = _ from k1), q8, q9, q10, q11, q0, q6, ↓reduceIte]
            refine (ge_X5_truthOf_118 (n + 1) (nI hi) (nI u) M).trans ?_
            unfold T_X5_truthOf_118
            rw [if_pos hb]
          · rw [ev, b64_0, (b64_hi u (by omega) (by omega) hi hh j hj).mp hb]
        · refine ⟨-1, ?_, fun j hj => ?_⟩
          · simp (disch := omega) only [↓gd_pos hO, ↓bnd2_of (show cal (n + 1) (fun zz => f_X5_kindAt zz 74 (nI r) M) = _ from k1), q8, q9, q10, q11, q0, q6, ↓reduceIte]
            refine (ge_X5_truthOf_118 (n + 1) (nI hi) (nI u) M).trans ?_
            unfold T_X5_truthOf_118
            rw [if_neg hb]
          · rw [ev, b64_m1 hj]
            cases ht : (hi * 64 + j).testBit u with
            | true => rfl
            | false => exact absurd ((b64_hi u (by omega) (by omega) hi hh j hj).mpr ht) hb
  · obtain ⟨o, a, b, o1, o2, ha, hb, e1, e2, e3, e4⟩ := hT.node (by omega) huc
    obtain ⟨sa, sb⟩ := hch o a b o1 o2 ha hb e4
    rw [e1] at k1
    rw [p3.to (show a < 5200 by omega) e2] at k2
    rw [p4.to (show b < 5200 by omega) e3] at k3
    have la := cP_lt sa ha
    have lb := cP_lt sb hb
    obtain ⟨-, -, -, ta⟩ := c_partAt (n := n) hW hP.1 h4 (show cP S a < cP S 5200 by omega)
    obtain ⟨-, -, -, tb⟩ := c_partAt (n := n) hW hP.1 h4 (show cP S b < cP S 5200 by omega)
    have va := hTr a sa (by omega)
    have vb := hTr b sb (by omega)
    obtain ⟨ra, hra⟩ : ∃ ra, ra = cP S a := ⟨_, rfl⟩
    obtain ⟨rb, hrb⟩ : ∃ rb, rb = cP S b := ⟨_, rfl⟩
    rw [← hra] at k2 ta va
    rw [← hrb] at k3 tb vb
    rw [e4]
    have hj : o = 9 ∨ o = 10 ∨ o = 11 := by omega
    rcases hj with rfl | rfl | rfl
    · have q8 : (nI 9 = (8 : Int32)) = False := eq_false (by decide)
      have q9 : (nI 9 = (9 : Int32)) = True := eq_true rfl
      refine ⟨(M.2.2.2.1 79 ra ^^^ (-1)) ||| M.2.2.2.1 79 rb, ?_, fun j hj => ?_⟩
      · simp (disch := omega) only [↓gd_pos hO, ↓bnd2_of (show cal (n + 1) (fun zz => f_X5_kindAt zz 74 (nI r) M) = _ from k1), q8, q9, ↓reduceIte, ↓bnd2_of (show cal (n + 1) (fun zz => f_X5_leftAt zz 74 (nI r) M) = _ from k2), ↓bnd2_of (show cal (n + 1) (fun zz => f_X5_truthAt zz 74 (nI ra) M) = _ from ta), ↓bnd2_of (show cal (n + 1) (fun zz => f_X5_rightAt zz 74 (nI r) M) = _ from k3), ↓bnd2_of (show cal (n + 1) (fun zz => f_X5_truthAt zz 74 (nI rb) M) = _ from tb)]
      · rw [b64_or, b64_not _ hj, va j hj, vb j hj]
        rfl
    · have q8 : (nI 10 = (8 : Int32)) = False := eq_false (by decide)
      have q9 : (nI 10 = (9 : Int32)) = False := eq_false (by decide)
      have q10 : (nI 10 = (10 : Int32)) = True := eq_true rfl
      refine ⟨M.2.2.2.1 79 ra &&& M.2.2.2.1 79 rb, ?_, fun j hj => ?_⟩
      · simp (disch := omega) only [↓gd_pos hO, ↓bnd2_of (show cal (n + 1) (fun zz => f_X5_kindAt zz 74 (nI r) M) = _ from k1), q8, q9, q10, ↓reduceIte, ↓bnd2_of (show cal (n + 1) (fun zz => f_X5_leftAt zz 74 (nI r) M) = _ from k2), ↓bnd2_of (show cal (n + 1) (fun zz => f_X5_truthAt zz 74 (nI ra) M) = _ from ta), ↓bnd2_of (show cal (n + 1) (fun zz => f_X5_rightAt zz 74 (nI r) M) = _ from k3), ↓bnd2_of (show cal (n + 1) (fun zz => f_X5_truthAt zz 74 (nI rb) M) = _ from tb)]
      · rw [b64_and, va j hj, vb j hj]
        rfl
    · have q8 : (nI 11 = (8 : Int32)) = False := eq_false (by decide)
      have q9 : (nI 11 = (9 : Int32)) = False := eq_false (by decide)
      have q10 : (nI 11 = (10 : Int32)) = False := eq_false (by decide)
      have q11 : (nI 11 = (11 : Int32)) = True := eq_true rfl
      refine ⟨M.2.2.2.1 79 ra ||| M.2.2.2.1 79 rb, ?_, fun j hj => ?_⟩
      · simp (disch := omega) only [↓gd_pos hO, ↓bnd2_of (show cal (n + 1) (fun zz => f_X5_kindAt zz 74 (nI r) M) = _ from k1), q8, q9, q10, q11, ↓reduceIte, ↓bnd2_of (show cal (n + 1) (fun zz => f_X5_leftAt zz 74 (nI r) M) = _ from k2), ↓bnd2_of (show cal (n + 1) (fun zz => f_X5_truthAt zz 74 (nI ra) M) = _ from ta), ↓bnd2_of (show cal (n + 1) (fun zz => f_X5_rightAt zz 74 (nI r) M) = _ from k3), ↓bnd2_of (show cal (n + 1) (fun zz => f_X5_truthAt zz 74 (nI rb) M) = _ from tb)]
      · rw [b64_or, va j hj, vb j hj]
        rfl
end TO9
