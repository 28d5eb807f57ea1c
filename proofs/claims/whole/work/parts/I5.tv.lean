/-! TRUTH: by sets of atoms; in the reference -/
def tv (s : Nat) : Fm → Bool
  | .arg k => if k = 8 then false else s.testBit k
  | .add a b => !tv s a || tv s b
  | .mul a b => tv s a && tv s b
  | .sub a b => tv s a || tv s b
  | _ => false
def bI (b : Bool) : Int32 := if b then 1 else 0
theorem bI_t : bI true = 1 := rfl
theorem bI_f : bI false = 0 := rfl
/-- a set by which all hypotheses are true and the goal is not -/
def bdS (H : List (Nat × Fm)) (g : Fm) (s : Nat) : Bool := !tv s g && H.all (fun x => tv s x.2)
def agF (H : List (Nat × Fm)) (g : Fm) : Nat → Nat → Int32
  | 0, _ => -1
  | z + 1, s => if bdS H g s then nI s else agF H g z (s + 1)
theorem tb_is : ∀ j, j < 8 → ∀ s, s < 256 → (((nI s >>> (nI j &&& 31)) &&& 1 = 1) ↔ s.testBit j = true) := by decide +kernel
section TV5
variable {M : Mem} {c : Nat} {H : List (Nat × Fm)} {gf : Fm} {s : Nat}
theorem it_eq (n : Nat) (x y : Int32) (M : Mem) : f_X11_isTrue (n + 1) 89 x y M = T_X11_isTrue_0 (fun v M => some (v, M)) none (r_X11_isTrue n) (n + 1) 89 x y M := rfl
set_option maxHeartbeats 1000000 in
theorem rx_isTrue (hW : Wd M) (hT : TabR M c) (hs : s < 256) : ∀ d k f, f < c → dpf (dR M f) ≤ d → f_X11_isTrue (d + 1 + k) 89 (nI f) (nI s) M = some (bI (tv s (dR M f)), M) := by
  intro d
  induction d using Nat.strongRecOn with
  | ind d ih =>
  intro k f hf hd
  have hc := hT.2.1
  obtain ⟨n, hn⟩ : ∃ n, n = d + k := ⟨_, rfl⟩
  rw [show d + 1 + k = n + 1 by omega, it_eq]
  have f90 := fA_R hW (a := 90) (by omega) (s_90 hW) (show f < 16384 by omega) (by omega)
  have f91 := fA_R hW (a := 91) (by omega) (s_91 hW) (show f < 16384 by omega) (by omega)
  have f92 := fA_R hW (a := 92) (by omega) (s_92 hW) (show f < 16384 by omega) (by omega)
  have hO := fO_R hW
  rcases hT.cases hf with ⟨j, hj, e1, e2, e3, e4⟩ | ⟨j, a, b, h1, h2, ha, hb, e1, e2, e3, e4⟩
  · rw [e4]
    unfold T_X11_isTrue_0
    by_cases h8 : j = 8
    · have q8 : (nI j = (8 : Int32)) = True := eq_true (by rw [h8]; rfl)
      have ev : tv s (.arg j) = false := by show (if j = 8 then false else s.testBit j) = false; rw [if_pos h8]
      rw [ev, bI_f]
      simp (disch := omega) only [↓gd_pos hO, ↓bnd_of (r_89_1 hW), ↓gd_pos f90, nI_z, e1, q8, ↓reduceIte]
    · have ne : ∀ k, k < 20 → j ≠ k → (nI j = nI k) = False := fun k hk h => eq_false (fun z => h ((nI_eq (by omega) (by omega)).mp z))
      have q8 : (nI j = (8 : Int32)) = False := ne 8 (by omega) h8
      have q9 : (nI j = (9 : Int32)) = False := ne 9 (by omega) (by omega)
      have q10 : (nI j = (10 : Int32)) = False := ne 10 (by omega) (by omega)
      have q11 : (nI j = (11 : Int32)) = False := ne 11 (by omega) (by omega)
      have ev : tv s (.arg j) = s.testBit j := by show (if j = 8 then false else s.testBit j) = _; rw [if_neg h8]
      have tb := tb_is j (by omega) s hs
      rw [ev]
      cases ht : s.testBit j with
      | true =>
        have qt : ((nI s >>> (nI j &&& 31)) &&& 1 = 1) = True := eq_true (tb.mpr ht)
        simp (disch := omega) only [↓gd_pos hO, ↓bnd_of (r_89_1 hW), ↓gd_pos f90, nI_z, e1, q8, q9, q10, q11, qt, ↓reduceIte, bI_t]
      | false =>
        have qt : ((nI s >>> (nI j &&& 31)) &&& 1 = 1) = False := eq_false (fun z => by have := tb.mp z; rw [ht] at this; cases this)
        simp (disch := omega) only [↓gd_pos hO, ↓bnd_of (r_89_1 hW), ↓gd_pos f90, nI_z, e1, q8, q9, q10, q11, qt, ↓reduceIte, bI_f]
  · rw [e4, dpf_mk] at hd
    have y1 : r_X11_isTrue n 0 [.ref 89, .int (nI a), .int (nI s)] M = some (bI (tv s (dR M a)), M) := by
      have := ih (d - 1) (by omega) k a (by omega) (by omega)
      rw [show d - 1 + 1 + k = n by omega] at this
      exact this
    have y2 : r_X11_isTrue n 0 [.ref 89, .int (nI b), .int (nI s)] M = some (bI (tv s (dR M b)), M) := by
      have := ih (d - 1) (by omega) k b (by omega) (by omega)
      rw [show d - 1 + 1 + k = n by omega] at this
      exact this
    rw [e4]
    unfold T_X11_isTrue_0
    have one : ((1 : Int32) = 0) = False := eq_false (by decide)
    have hj : j = 9 ∨ j = 10 ∨ j = 11 := by omega
    rcases hj with rfl | rfl | rfl
    · show _ = some (bI (!tv s (dR M a) || tv s (dR M b)), M)
      have q8 : (nI 9 = (8 : Int32)) = False := eq_false (by decide)
      have q9 : (nI 9 = (9 : Int32)) = True := eq_true rfl
      cases ta : tv s (dR M a) with
      | false =>
        rw [ta, bI_f] at y1
        simp (disch := omega) only [↓gd_pos hO, ↓bnd_of (r_89_1 hW), ↓gd_pos f90, nI_z, e1, q8, q9, ↓reduceIte, ↓bnd_of (r_89_2 hW), ↓gd_pos f91, e2, ↓bnd2_of y1]
        rfl
      | true =>
        rw [ta, bI_t] at y1
        cases tb : tv s (dR M b) with
        | false =>
          rw [tb, bI_f] at y2
          simp (disch := omega) only [↓gd_pos hO, ↓bnd_of (r_89_1 hW), ↓gd_pos f90, nI_z, e1, q8, q9, ↓reduceIte, ↓bnd_of (r_89_2 hW), ↓gd_pos f91, e2, ↓bnd2_of y1, one, ↓bnd_of (r_89_3 hW), ↓gd_pos f92, e3, ↓bnd2_of y2]
          rfl
        | true =>
          rw [tb, bI_t] at y2
          simp (disch := omega) only [↓gd_pos hO, ↓bnd_of (r_89_1 hW), ↓gd_pos f90, nI_z, e1, q8, q9, ↓reduceIte, ↓bnd_of (r_89_2 hW), ↓gd_pos f91, e2, ↓bnd2_of y1, one, ↓bnd_of (r_89_3 hW), ↓gd_pos f92, e3, ↓bnd2_of y2]
          rfl
    · show _ = some (bI (tv s (dR M a) && tv s (dR M b)), M)
      have q8 : (nI 10 = (8 : Int32)) = False := eq_false (by decide)
      have q9 : (nI 10 = (9 : Int32)) = False := eq_false (by decide)
      have q10 : (nI 10 = (10 : Int32)) = True := eq_true rfl
      cases ta : tv s (dR M a) with
      | false =>
        rw [ta, bI_f] at y1
        simp (disch := omega) only [↓gd_pos hO, ↓bnd_of (r_89_1 hW), ↓gd_pos f90, nI_z, e1, q8, q9, q10, ↓reduceIte, ↓bnd_of (r_89_2 hW), ↓gd_pos f91, e2, ↓bnd2_of y1]
        rfl
      | true =>
        rw [ta, bI_t] at y1
        cases tb : tv s (dR M b) with
        | false =>
          rw [tb, bI_f] at y2
          simp (disch := omega) only [↓gd_pos hO, ↓bnd_of (r_89_1 hW), ↓gd_pos f90, nI_z, e1, q8, q9, q10, ↓reduceIte, ↓bnd_of (r_89_2 hW), ↓gd_pos f91, e2, ↓bnd2_of y1, one, ↓bnd_of (r_89_3 hW), ↓gd_pos f92, e3, ↓bnd2_of y2]
          rfl
        | true =>
          rw [tb, bI_t] at y2
          simp (disch := omega) only [↓gd_pos hO, ↓bnd_of (r_89_1 hW), ↓gd_pos f90, nI_z, e1, q8, q9, q10, ↓reduceIte, ↓bnd_of (r_89_2 hW), ↓gd_pos f91, e2, ↓bnd2_of y1, one, ↓bnd_of (r_89_3 hW), ↓gd_pos f92, e3, ↓bnd2_of y2]
          rfl
    · show _ = some (bI (tv s (dR M a) || tv s (dR M b)), M)
      have q8 : (nI 11 = (8 : Int32)) = False := eq_false (by decide)
      have q9 : (nI 11 = (9 : Int32)) = False := eq_false (by decide)
      have q10 : (nI 11 = (10 : Int32)) = False := eq_false (by decide)
      have q11 : (nI 11 = (11 : Int32)) = True := eq_true rfl
      cases ta : tv s (dR M a) with
      | true =>
        rw [ta, bI_t] at y1
        simp (disch := omega) only [↓gd_pos hO, ↓bnd_of (r_89_1 hW), ↓gd_pos f90, nI_z, e1, q8, q9, q10, q11, ↓reduceIte, ↓bnd_of (r_89_2 hW), ↓gd_pos f91, e2, ↓bnd2_of y1, one]
        rfl
      | false =>
        rw [ta, bI_f] at y1
        cases tb : tv s (dR M b) with
        | false =>
          rw [tb, bI_f] at y2
          simp (disch := omega) only [↓gd_pos hO, ↓bnd_of (r_89_1 hW), ↓gd_pos f90, nI_z, e1, q8, q9, q10, q11, ↓reduceIte, ↓bnd_of (r_89_2 hW), ↓gd_pos f91, e2, ↓bnd2_of y1, ↓bnd_of (r_89_3 hW), ↓gd_pos f92, e3, ↓bnd2_of y2]
          rfl
        | true =>
          rw [tb, bI_t] at y2
          simp (disch := omega) only [↓gd_pos hO, ↓bnd_of (r_89_1 hW), ↓gd_pos f90, nI_z, e1, q8, q9, q10, q11, ↓reduceIte, ↓bnd_of (r_89_2 hW), ↓gd_pos f91, e2, ↓bnd2_of y1, one, ↓bnd_of (r_89_3 hW), ↓gd_pos f92, e3, ↓bnd2_of y2]
          rfl
theorem an_0 (hW : Wd M) (hH : HyR M 15 96 97 98 c H) {n j : Nat} (hj : j ≤ H.length) : lp (st_X11_againstNow n) (29, [.ref 89, .int (nI s), .int 0, .int (nI j)], M) = lp (st_X11_againstNow n) (2, [.ref 89, .int (nI (s + 1))], M) := by
  refine (ge_X11_againstNow_29 n 89 (nI s) 0 (nI j) M).trans ?_
  unfold T_X11_againstNow_29
  simp only [↓gd_pos (fO_R hW), ↓reduceIte, ite_self, nI_1]
theorem an_29 (hW : Wd M) (hT : TabR M c) (hH : HyR M 15 96 97 98 c H) (hd : ∀ x, x ∈ H → dpf x.2 ≤ 200) (hs : s < 256) (k : Nat) : ∀ z j, j + z = H.length → lp (st_X11_againstNow (k + 202)) (29, [.ref 89, .int (nI s), .int 1, .int (nI j)], M) = if (H.drop j).all (fun x => tv s x.2) then some (nI s, M) else lp (st_X11_againstNow (k + 202)) (2, [.ref 89, .int (nI (s + 1))], M) := by
  have h6 := hH.2.1
  obtain ⟨n, hn⟩ : ∃ n, n = k + 201 := ⟨_, rfl⟩
  rw [show k + 202 = n + 1 by omega]
  have one : ((1 : Int32) = 0) = False := eq_false (by decide)
  intro z
  induction z with
  | zero =>
    intro j hj
    rw [List.drop_of_length_le (by omega)]
    refine (ge_X11_againstNow_29 (n + 1) 89 (nI s) 1 (nI j) M).trans ?_
    unfold T_X11_againstNow_29
    have hle : (nI H.length ≤ nI j) = True := eq_true (by rw [nI_le_ (by omega) (by omega)]; omega)
    simp only [↓gd_pos (fO_R hW), hH.1, hle, ↓reduceIte, one]
    rfl
  | succ z ih =>
    intro j hj
    have hjl : j < H.length := by omega
    obtain ⟨-, v, v1, v2, v3⟩ := hH.2.2 j hjl
    have y := rx_isTrue hW hT hs 200 k v v1 (by rw [v3]; exact hd _ (List.getElem_mem hjl))
    rw [show 200 + 1 + k = n by omega, v3] at y
    have fA98 : fA M 98 1 (nI j) := ⟨by rw [hW.1]; omega, 6, s_98 hW, vp_nI (by omega) (by omega)⟩
    have hle : (nI H.length ≤ nI j) = False := eq_false (by rw [nI_le_ (by omega) (by omega)]; omega)
    have st : lp (st_X11_againstNow (n + 1)) (29, [.ref 89, .int (nI s), .int 1, .int (nI j)], M) = lp (st_X11_againstNow (n + 1)) (29, [.ref 89, .int (nI s), .int (bI (tv s H[j].2)), .int (nI (j + 1))], M) := by
      refine (ge_X11_againstNow_29 (n + 1) 89 (nI s) 1 (nI j) M).trans ?_
      unfold T_X11_againstNow_29
      simp (disch := omega) only [↓gd_pos (fO_R hW), hH.1, hle, ↓reduceIte, one, ↓bnd_of (r_89_11 hW), ↓gd_pos fA98, nI_z, v2, ↓bnd2_of (show cal (n + 1) (fun zz => f_X11_isTrue zz 89 (nI v) (nI s) M) = _ from y), nI_1]
    rw [st, List.drop_eq_getElem_cons hjl, List.all_cons]
    cases ht : tv s H[j].2 with
    | true =>
      rw [bI_t, ih (j + 1) (by omega)]
      rfl
    | false =>
      rw [bI_f, an_0 hW hH (by omega)]
      rfl
theorem an_2 (hW : Wd M) (hT : TabR M c) (hH : HyR M 15 96 97 98 c H) (hd : ∀ x, x ∈ H → dpf x.2 ≤ 200) (hG : GlR M c gf) (hg : dpf gf ≤ 200) (k : Nat) : ∀ z s, s + z = 256 → lp (st_X11_againstNow (k + 202)) (2, [.ref 89, .int (nI s)], M) = some (agF H gf z s, M) := by
  obtain ⟨v, v1, v2, v3⟩ := hG
  obtain ⟨n, hn⟩ : ∃ n, n = k + 201 := ⟨_, rfl⟩
  intro z
  induction z with
  | zero =>
    intro s hs
    refine (ge_X11_againstNow_2 (k + 202) 89 (nI s) M).trans ?_
    unfold T_X11_againstNow_2
    have hle : ((256 : Int32) ≤ nI s) = True := eq_true (by rw [show (256 : Int32) = nI 256 from rfl, nI_le_ (by omega) (by omega)]; omega)
    simp only [hle, ↓reduceIte]
    rfl
  | succ z ih =>
    intro s hs
    have y := rx_isTrue hW hT (s := s) (by omega) 200 k v v1 (by rw [v3]; exact hg)
    rw [show 200 + 1 + k = n by omega, v3] at y
    have hle : ((256 : Int32) ≤ nI s) = False := eq_false (by rw [show (256 : Int32) = nI 256 from rfl, nI_le_ (by omega) (by omega)]; omega)
    have st : lp (st_X11_againstNow (k + 202)) (2, [.ref 89, .int (nI s)], M) = lp (st_X11_againstNow (k + 202)) (29, [.ref 89, .int (nI s), .int (bI (!tv s gf)), .int (nI 0)], M) := by
      rw [show k + 202 = n + 1 by omega]
      refine (ge_X11_againstNow_2 (n + 1) 89 (nI s) M).trans ?_
      unfold T_X11_againstNow_2
      cases ht : tv s gf with
      | true =>
        rw [ht, bI_t] at y
        simp only [hle, ↓reduceIte, ↓gd_pos (fO_R hW), v2, ↓bnd2_of (show cal (n + 1) (fun zz => f_X11_isTrue zz 89 (nI v) (nI s) M) = _ from y), show ((1 : Int32) = 0) = False from eq_false (by decide)]
        rfl
      | false =>
        rw [ht, bI_f] at y
        simp only [hle, ↓reduceIte, ↓gd_pos (fO_R hW), v2, ↓bnd2_of (show cal (n + 1) (fun zz => f_X11_isTrue zz 89 (nI v) (nI s) M) = _ from y)]
        rfl
    rw [st]
    show _ = some (if bdS H gf s then nI s else agF H gf z (s + 1), M)
    unfold bdS
    cases ht : tv s gf with
    | true =>
      rw [show bI (!true) = 0 from rfl, an_0 hW hH (Nat.zero_le _), ih (s + 1) (by omega)]
      rfl
    | false =>
      rw [show bI (!false) = 1 from rfl, an_29 hW hT hH hd (by omega) k H.length 0 (by omega), List.drop_zero, ih (s + 1) (by omega)]
      cases ha : H.all (fun x => tv s x.2) with
      | true => rfl
      | false => rfl
theorem rx_against (hW : Wd M) (hT : TabR M c) (hH : HyR M 15 96 97 98 c H) (hd : ∀ x, x ∈ H → dpf x.2 ≤ 200) (hG : GlR M c gf) (hg : dpf gf ≤ 200) (k : Nat) : f_X11_againstNow (k + 202) 89 M = some (agF H gf 256 0, M) := (ge_X11_againstNow_0 (k + 202) 89 M).trans (an_2 hW hT hH hd hG hg k 256 0 (by omega))
end TV5
