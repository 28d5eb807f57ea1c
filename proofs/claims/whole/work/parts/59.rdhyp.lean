/-! READING HYPOTHESES, in the class -/
noncomputable def itc {α : Type} (P : Prop) (x y : α) : α := @ite α P (Classical.propDecidable P) x y
theorem itc_pos {α : Type} {P : Prop} {x y : α} (h : P) : itc P x y = x := if_pos h
theorem itc_neg {α : Type} {P : Prop} {x y : α} (h : ¬ P) : itc P x y = y := if_neg h
/-- one hypothesis from place p on: a fault, or its formula's words and the place behind the semicolon -/
noncomputable def hy1 (b : Nat → Nat) (n p : Nat) (names : List Nat) : (Nat × Nat) ⊕ (List Nat × Nat) :=
  itc (isN b n p) (itc ((b (tq b n p) = 120 ∧ 1 < te b n p - tq b n p) ∨ nmAt b n p ∈ names) (.inl (2, tq b n p)) (if names.length < 6 then (match scan b n 30 (te b n p) 1 with
    | .inl e => .inl e
    | .inr q => if tq b n q.2 < n ∧ b (tq b n q.2) = 59 then .inr (q.1, tq b n q.2 + 1) else .inl (1, tq b n q.2)) else .inl (4, tq b n p))) (.inl (1, tq b n p))
noncomputable def rdH (b : Nat → Nat) (n : Nat) : Nat → Nat → List (Nat × List Nat) → (Nat × Nat) ⊕ List (Nat × List Nat)
  | 0, _, _ => .inl (0, 0)
  | z + 1, p, acc => if tq b n p = n then .inr acc else match hy1 b n p (acc.map Prod.fst) with
    | .inl e => .inl e
    | .inr q => rdH b n z q.2 (acc ++ [(nmAt b n p, q.1)])
def hdF (l : List Nat) : Fm := (ev l).headD (.arg 0)
theorem hdF_is {l : List Nat} {f : Fm} (h : some f = (ev l)[0]?) : hdF l = f := by
  unfold hdF
  cases hh : ev l with
  | nil => rw [hh] at h; cases h
  | cons x t => rw [hh] at h; cases h; rfl
theorem hdF_wdf {l : List Nat} (h : chk l 1) : wdf (hdF l) = l.length + l.count 12 := by
  have h1 := ev_sum h
  have h2 := (ev_app h).1
  unfold hdF
  cases hh : ev l with
  | nil => rw [hh] at h2; simp at h2
  | cons x t =>
    rw [hh] at h1 h2
    have ht : t = [] := by
      simp only [List.length_cons] at h2
      exact List.eq_nil_of_length_eq_zero (by omega)
    subst ht
    simpa [sumF] using h1
theorem HyC.fr {M M1 : Mem} {a c c1 : Nat} {H : List (Nat × Fm)} (h : HyC M a c H) (h3 : M1.2.2.1 a 3 = M.2.2.1 a 3) (n1 : M1.2.2.1 (a + 1) = M.2.2.1 (a + 1)) (n2 : M1.2.2.1 (a + 2) = M.2.2.1 (a + 2)) (n3 : M1.2.2.1 (a + 3) = M.2.2.1 (a + 3)) (hc : c ≤ c1) (hd : ∀ i, i < c → dC M1 i = dC M i) : HyC M1 a c1 H := by
  refine ⟨h3.trans h.1, h.2.1, fun j hj => ?_⟩
  obtain ⟨v, g1, g2, g3, g4, g5, g6⟩ := h.2.2 j hj
  exact ⟨v, by omega, by rw [n1]; exact g2, by rw [n2]; exact g3, by rw [hd v g1]; exact g4, by rw [n3]; exact g5, g6⟩
theorem first_of {H : List (Nat × Fm)} {nm : Nat} (h : nm ∈ H.map Prod.fst) : ∃ i, ∃ hi : i < H.length, H[i].1 = nm ∧ ∀ u, (hu : u < i) → (H[u]'(by omega)).1 ≠ nm := by
  induction H with
  | nil => simp at h
  | cons x H ih =>
    by_cases e : x.1 = nm
    · exact ⟨0, by simp, e, fun u hu => by omega⟩
    · have h' : nm ∈ H.map Prod.fst := by
        simp only [List.map_cons, List.mem_cons] at h
        rcases h with h | h
        · exact (e h.symm).elim
        · exact h
      obtain ⟨i, hi, h1, h2⟩ := ih h'
      refine ⟨i + 1, by simp; omega, by simpa using h1, fun u hu => ?_⟩
      cases u with
      | zero => exact e
      | succ u => simpa using h2 u (by omega)
theorem none_of {H : List (Nat × Fm)} {nm : Nat} (h : ¬ nm ∈ H.map Prod.fst) : ∀ i, (hi : i < H.length) → H[i].1 ≠ nm := fun i hi e => h (List.mem_map.mpr ⟨H[i], List.getElem_mem hi, e⟩)
def SHy (a k : Nat) : Prop := SRB a k ∨ a = 17 ∨ a = 18 ∨ a = 19 ∨ (a = 16 ∧ k = 3)
theorem SE_SHy : ∀ a k, SE a k → SHy a k := fun a k h => Or.inl (Or.inl (Or.inl h))
section RH
variable {M : Mem} {b : Nat → Nat} {n : Nat}
/-- what reading one hypothesis comes to -/
def H1End (M : Mem) (k n c : Nat) (H : List (Nat × Fm)) (p nm : Nat) (r : (Nat × Nat) ⊕ (List Nat × Nat)) : Prop := match r with
  | .inl e => ∃ c1 M1, f_X6_readHypothesis (k + 5) 14 M = some (0, M1) ∧ Fr SHy M M1 ∧ M1.2.2.1 14 17 = nI e.1 ∧ M1.2.2.1 14 18 = nI e.2 ∧ c ≤ c1 ∧ 2 * c1 ≤ 2 * c + (n + 1 - p) ∧ TabC M1 c1 ∧ ∀ i, i < c → dC M1 i = dC M i
  | .inr q => ∃ c1 M1, f_X6_readHypothesis (k + 5) 14 M = some (1, M1) ∧ Fr SHy M M1 ∧ M1.2.2.1 14 17 = M.2.2.1 14 17 ∧ M1.2.2.1 14 18 = M.2.2.1 14 18 ∧ M1.2.2.1 14 11 = nI q.2 ∧ q.2 ≤ n ∧ p + 1 ≤ q.2 ∧ c ≤ c1 ∧ 2 * c1 + (n + 1 - q.2) ≤ 2 * c + (n + 1 - p) ∧ TabC M1 c1 ∧ (∀ i, i < c → dC M1 i = dC M i) ∧ HyC M1 16 c1 (H ++ [(nm, hdF q.1)]) ∧ chk q.1 1 ∧ q.1.length ≤ 30
theorem nar0 : (narrow .boolean (.int (0 : Int32)) = .int 0) = True := eq_true rfl
set_option maxHeartbeats 8000000 in
theorem c_readHyp (hW : Wd M) (hX : TxC M b n) (k : Nat) {p : Nat} (hp : p ≤ n) (hk : TkC M b n p) (hend : tq b n p ≠ n) {c : Nat} (hT : TabC M c) {H : List (Nat × Fm)} (hH : HyC M 16 c H) (hroom : c + 30 ≤ 5200) : H1End M k n c H p (nmAt b n p) (hy1 b n p (H.map Prod.fst)) := by
  have h6 := hX.2.1
  have hle := tq_le b n p hp
  obtain ⟨nA, nB⟩ := c_atName hW (k + 3) hk hp h6
  -- a fault told at the word itself
  have flt : ∀ kd : Nat, f_X6_readHypothesis (k + 5) 14 M = some (0, wI (wI M 14 17 (nI kd)) 14 18 (nI (tq b n p))) → H1End M k n c H p (nmAt b n p) (.inl (kd, tq b n p)) := fun kd e =>
    ⟨c, _, e, (Fr.refl.wI (SE_SHy _ _ ⟨rfl, by omega⟩) _).wI (SE_SHy _ _ ⟨rfl, by omega⟩) _, rfl, rfl, Nat.le_refl _, by omega, (hT : TabC _ c), fun _ _ => rfl⟩
  unfold hy1
  by_cases hN : isN b n p
  · rw [itc_pos hN]
    have eA := nA hN
    have eR := c_nameRead hW (k + 3) hk hp h6 hN
    have hok := hN.ok
    have eL := c_letter0 (M := M) (k + 4) hok
    have hnl := nmc_lt hok
    have hnx : nxt b n p = te b n p := by
      rcases cod_neg b n p hp with ⟨-, -, h3, -⟩ | ⟨h1, -⟩
      · exact h3
      · have := hN.1
        omega
    have eW := c_wordLetters hW (k + 4) hk hp h6
    rw [hnx] at eW
    have hb0 := (hX.2.2.2 (tq b n p) (by omega)).1
    have hle1 : (nI (te b n p - tq b n p) ≤ (1 : Int32)) = (te b n p - tq b n p ≤ 1) := nI_le_ (b := 1) (by omega) (by omega)
    have s45 : f_X6_readHypothesis (k + 5) 14 M = lp (st_X6_readHypothesis (k + 5)) (45, [.ref 14, .int (nI (nmAt b n p)), .int (if b (tq b n p) = 120 ∧ 1 < te b n p - tq b n p then 1 else 0)], M) := by
      refine (ge_X6_readHypothesis_0 (k + 5) 14 M).trans ?_
      simp (disch := omega) only [T_X6_readHypothesis_0, W_14 hW, gd_true, fO, fA, ex_in, bnd_s, bnd2_s, cal_s, Nat.reduceLT, true_and, and_true, and_self, nI_z, vp_iff, up2_if, Nat.reduceEqDiff, false_and, and_false, if_false, if_true, nI_1, nI_le_, nI_lt_, nI_lt0, nI_eq_, nI_add, eA, show ((1 : Int32) = 0) = False from eq_false (by decide), eR, eL, Nat.add_zero, show (120 : Int32) = nI 120 from rfl, eW, hle1]
      by_cases q1 : b (tq b n p) = 120
      · rw [if_pos q1]
        by_cases q2 : te b n p - tq b n p ≤ 1
        · rw [if_pos q2, if_neg (fun q => by have := q.2; omega)]
        · rw [if_neg q2, if_pos ⟨q1, by omega⟩]
      · rw [if_neg q1, if_neg (fun q => q1 q.1)]
    have ft := c_fail hW (k + 4) 2 (nI (tq b n p))
    by_cases hx : b (tq b n p) = 120 ∧ 1 < te b n p - tq b n p
    · rw [itc_pos (Or.inl hx)]
      refine flt 2 ?_
      rw [s45, if_pos hx]
      refine (ge_X6_readHypothesis_45 (k + 5) 14 _ _ M).trans ?_
      simp only [T_X6_readHypothesis_45, show ((1 : Int32) = 0) = False from eq_false (by decide), if_false, W_14 hW, gd_true, fO, fA, ex_in, bnd_s, bnd2_s, cal_s, Nat.reduceLT, true_and, and_true, and_self, nI_z, vp_iff, up2_if, Nat.reduceEqDiff, false_and, and_false, if_false, if_true, nI_1, nI_le_, nI_lt_, nI_lt0, nI_eq_, nI_add, hk.1, ft, nar0]
      rfl
    · obtain ⟨fA_, fB_⟩ := c_find16 hW (k + 4) hH (nm := nmAt b n p) hnl.1
      by_cases hd : nmAt b n p ∈ H.map Prod.fst
      · rw [itc_pos (Or.inr hd)]
        refine flt 2 ?_
        obtain ⟨i, hi, e1, e2⟩ := first_of hd
        have ef := fA_ i hi e1 e2
        have hH6 := hH.2.1
        rw [s45, if_neg hx]
        refine (ge_X6_readHypothesis_45 (k + 5) 14 _ _ M).trans ?_
        simp only [T_X6_readHypothesis_45, if_true, W_14 hW, W_16 hW, gd_true, fO, fA, ex_in, bnd_s, bnd2_s, cal_s, Nat.reduceLT, true_and, and_true, and_self, nI_z, vp_iff, up2_if, Nat.reduceEqDiff, false_and, and_false, if_false, if_true, nI_1, nI_le_, nI_lt_, nI_lt0, nI_eq_, nI_add, ef, nI_ne_m1 (show i < 2147483648 by omega), hk.1, ft, nar0]
        rfl
      · have hnone : ¬ ((b (tq b n p) = 120 ∧ 1 < te b n p - tq b n p) ∨ nmAt b n p ∈ H.map Prod.fst) := fun q => q.elim hx hd
        rw [itc_neg hnone]
        have ef := fB_ (none_of hd)
        obtain ⟨uA, uB⟩ := c_isFull16 hW (k + 4) hH
        by_cases hlen : H.length < 6
        · rw [if_pos (show (H.map Prod.fst).length < 6 by simpa using hlen)]
          have eu := uA hlen
          have h11 : M.2.2.1 14 11 = nI (te b n p) := by rw [hk.2.1, hnx]
          obtain ⟨rA, rB⟩ := c_readFormula hW hX hT (k + 1) (p := te b n p) hle.2.2.2 h11 hroom
          cases hs : scan b n 30 (te b n p) 1 with
          | inl e =>
            obtain ⟨M1, x1, x2, x3, x4⟩ := rA e.1 e.2 hs
            obtain ⟨t1, t2⟩ := hT.fr x2 (by simp [SRF]) (by simp [SRF]) (by simp [SRF]) (by simp [SRF]) (by simp [SRF]) (by simp [SRF]) (by simp [SRF])
            refine ⟨c, M1, ?_, x2.mono (fun a k h => Or.inl (Or.inl h)), x3, x4, Nat.le_refl _, by omega, t1, fun i _ => t2 i⟩
            rw [s45, if_neg hx]
            refine (ge_X6_readHypothesis_45 (k + 5) 14 _ _ M).trans ?_
            simp only [T_X6_readHypothesis_45, if_true, W_14 hW, W_16 hW, gd_true, fO, fA, ex_in, bnd_s, bnd2_s, cal_s, Nat.reduceLT, true_and, and_true, and_self, nI_z, vp_iff, up2_if, Nat.reduceEqDiff, false_and, and_false, if_false, if_true, nI_1, nI_le_, nI_lt_, nI_lt0, nI_eq_, nI_add, ef, eu, x1]
          | inr q =>
            obtain ⟨f, c1, M1, x1, x2, x3, x4, x5, x6, x7, x8, x9, x10, x11, x12, x13⟩ := rB q.1 q.2 hs
            have hW1 := x2.Wd hW
            have hchk := scan_chk (l := q.1) (q := q.2) hle.2.2.2 hs
            have hlen2 := scan_len (l := q.1) (q := q.2) hs
            have hby := scan_bytes (l := q.1) (q := q.2) hle.2.2.2 hs
            have hl1 := ev_len hchk.1
            have hN1 := hN.1
            have hX1 := hX.fr x2 (by simp [SRB, SRF, SF]) (by simp [SRB, SRF, SF]) (by simp [SRB, SRF, SF])
            obtain ⟨M2, a1, a2, a3, a4, a5, a6⟩ := c_advance hW1 hX1 (k + 3) hchk.2 x5
            have hW2 := a2.Wd hW1
            have hle2 := tq_le b n q.2 hchk.2
            have hfm : (nI f = -1) = False := nI_ne_m1 (by have := x11.2.1; omega)
            obtain ⟨t1, t2⟩ := x11.fr a2 (by simp [SA]) (by simp [SA]) (by simp [SA]) (by simp [SA]) (by simp [SA]) (by simp [SA]) (by simp [SA])
            have F2 : Fr SHy M M2 := (x2.mono (T := SHy) (fun a k h => Or.inl h)).trans (a2.mono (fun a k h => SE_SHy a k (SA_SE a k h)))
            have head : f_X6_readHypothesis (k + 5) 14 M = if cod b n q.2 = -2 then (if (lg_cmp (lN (pkd b n q.2)) 59) = 0 then bnd2 (f_X2_add (k + 4) 16 (nI (nmAt b n p)) (nI f) (M2.2.2.1 14 16) M2) none (fun _ M62 => some (1, M62)) else bnd2 (f_X6_fail (k + 4) 14 1 (nI (tq b n q.2)) M2) none (fun v66 M67 => gd (narrow .boolean (.int v66) = .int v66) none (some (v66, M67)))) else bnd2 (f_X6_fail (k + 4) 14 1 (nI (tq b n q.2)) M2) none (fun v66 M67 => gd (narrow .boolean (.int v66) = .int v66) none (some (v66, M67))) := by
              rw [s45, if_neg hx]
              refine (ge_X6_readHypothesis_45 (k + 5) 14 _ _ M).trans ?_
              simp only [T_X6_readHypothesis_45, if_true, W_14 hW, W_16 hW, W_14 hW1, W_14 hW2, W_16 hW2, gd_true, fO, fA, ex_in, bnd_s, bnd2_s, cal_s, Nat.reduceLT, true_and, and_true, and_self, nI_z, vp_iff, up2_if, Nat.reduceEqDiff, false_and, and_false, if_false, if_true, nI_1, nI_le_, nI_lt_, nI_lt0, nI_eq_, nI_add, ef, eu, x1, hfm, a1, a5, a6, a3]
            have ft2 := c_fail hW2 (k + 4) 1 (nI (tq b n q.2))
            have bad : ¬ (tq b n q.2 < n ∧ b (tq b n q.2) = 59) → f_X6_readHypothesis (k + 5) 14 M = some (0, wI (wI M2 14 17 1) 14 18 (nI (tq b n q.2))) := by
              intro hbad
              rw [head]
              have e0 : bnd2 (f_X6_fail (k + 4) 14 1 (nI (tq b n q.2)) M2) none (fun v66 M67 => gd (narrow .boolean (.int v66) = .int v66) none (some (v66, M67))) = some (0, wI (wI M2 14 17 1) 14 18 (nI (tq b n q.2))) := by
                rw [ft2, bnd2_s]
                exact gd_pos (show narrow FieldType.boolean (Value.int (0 : Int32)) = .int 0 from rfl)
              by_cases q2 : cod b n q.2 = -2
              · rw [if_pos q2]
                have hpk : pkd b n q.2 = b (tq b n q.2) ∧ tq b n q.2 < n := by
                  have hne : tq b n q.2 ≠ n := by
                    intro h
                    rw [(cod_end b n q.2 hchk.2).mpr h] at q2
                    exact absurd q2 (by decide)
                  have hte : te b n q.2 = tq b n q.2 := by
                    rcases cod_neg b n q.2 hchk.2 with ⟨h1, h2, h3, h4⟩ | ⟨h1, -⟩
                    · rw [q2] at h2
                      split at h2
                      · exact absurd h2 (by decide)
                      · have : (-2 : Int32).toInt = (nI (tw b n q.2)).toInt := by rw [← h2]
                        rw [nI_toInt (by omega)] at this
                        have e : (-2 : Int32).toInt = -2 := rfl
                        omega
                    · exact h1
                  unfold pkd
                  rw [if_neg hne, if_pos hte]
                  exact ⟨rfl, by omega⟩
                have hb2 := (hX.2.2.2 (tq b n q.2) hpk.2).1
                rw [if_neg (fun h => by
                  have := (lg_cmp0 _ _).mp h
                  rw [hpk.1] at this
                  exact hbad ⟨hpk.2, (fb_lN_inj (b := 59) (by omega) (by omega)).mp this⟩)]
                exact e0
              · rw [if_neg q2]
                exact e0
            show H1End M k n c H p (nmAt b n p) (if tq b n q.2 < n ∧ b (tq b n q.2) = 59 then .inr (q.1, tq b n q.2 + 1) else .inl (1, tq b n q.2))
            by_cases hsemi : tq b n q.2 < n ∧ b (tq b n q.2) = 59
            · rw [if_pos hsemi]
              have ls := lts_is b (n - tq b n q.2) (tq b n q.2)
              have hte : te b n q.2 = tq b n q.2 := by
                by_cases h : te b n q.2 = tq b n q.2
                · exact h
                · have := ls.2.2.2 (tq b n q.2) (Nat.le_refl _) (by show _ < te b n q.2; omega)
                  unfold isLt at this
                  omega
              have hcod : cod b n q.2 = -2 := by unfold cod; rw [if_neg (by omega), if_pos hte]
              have hpk : pkd b n q.2 = 59 := by unfold pkd; rw [if_neg (by omega), if_pos hte]; exact hsemi.2
              have hnx2 : nxt b n q.2 = tq b n q.2 + 1 := by unfold nxt; rw [if_neg (by omega), if_pos hte]
              have e16 : M2.2.2.1 14 16 = nI (wdf (dC M2 f)) := by
                rw [a2.int (by simp [SA]), x7, t2 f, ← hdF_is x13, hdF_wdf hchk.1]
              have hH2 : HyC M2 16 c1 H := hH.fr ((a2.int (by simp [SA])).trans (x2.int (by simp [SRB, SRF, SF]))) ((a2.ints (by simp [SA])).trans (x2.ints (by simp [SRB, SRF, SF]))) ((a2.ints (by simp [SA])).trans (x2.ints (by simp [SRB, SRF, SF]))) ((a2.ints (by simp [SA])).trans (x2.ints (by simp [SRB, SRF, SF]))) x9 (fun i hi => (t2 i).trans (x12 i hi))
              have ea := c_add16 hW2 (k + 4) (j := H.length) hH2.1 hlen (nI (nmAt b n p)) (nI f) (nI (wdf (dC M2 f)))
              have hH3 := hH2.add16 hlen (nm := nmAt b n p) (v := f) x8 hnl.1
              refine ⟨c1, adM16 M2 H.length (nI (nmAt b n p)) (nI f) (nI (wdf (dC M2 f))), ?_, (((F2.wI (by simp [SHy]) _).wI (by simp [SHy]) _).wI (by simp [SHy]) _).wI (by simp [SHy]) _, ?_, ?_, ?_, by show tq b n q.2 + 1 ≤ n; omega, by show p + 1 ≤ tq b n q.2 + 1; omega, x9, ?_, (t1 : TabC _ c1), fun i hi => (t2 i).trans (x12 i hi), ?_, hchk.1, hlen2⟩
              · rw [head, if_pos hcod, if_pos (by rw [hpk]; decide), e16, ea]
                rfl
              · exact (a2.int (by simp [SA])).trans x3
              · exact (a2.int (by simp [SA])).trans x4
              · show M2.2.2.1 14 11 = _
                rw [a4, hnx2]
              · show 2 * c1 + (n + 1 - (tq b n q.2 + 1)) ≤ 2 * c + (n + 1 - p)
                have := hN.1
                omega
              · show HyC _ 16 c1 (H ++ [(nmAt b n p, hdF q.1)])
                rw [hdF_is x13, ← t2 f]
                exact hH3
            · rw [if_neg hsemi]
              refine ⟨c1, _, bad hsemi, (F2.wI (SE_SHy _ _ ⟨rfl, by omega⟩) _).wI (SE_SHy _ _ ⟨rfl, by omega⟩) _, rfl, rfl, x9, ?_, (t1 : TabC _ c1), fun i hi => (t2 i).trans (x12 i hi)⟩
              have := hN.1
              omega
        · rw [if_neg (show ¬ (H.map Prod.fst).length < 6 by simpa using hlen)]
          have eu := uB hlen
          have ft4 := c_fail hW (k + 4) 4 (nI (tq b n p))
          refine flt 4 ?_
          rw [s45, if_neg hx]
          refine (ge_X6_readHypothesis_45 (k + 5) 14 _ _ M).trans ?_
          simp only [T_X6_readHypothesis_45, if_true, W_14 hW, W_16 hW, gd_true, fO, fA, ex_in, bnd_s, bnd2_s, cal_s, Nat.reduceLT, true_and, and_true, and_self, nI_z, vp_iff, up2_if, Nat.reduceEqDiff, false_and, and_false, if_false, if_true, nI_1, nI_le_, nI_lt_, nI_lt0, nI_eq_, nI_add, ef, eu, show ((1 : Int32) = 0) = False from eq_false (by decide), hk.1, ft4, nar0]
          rfl
  · rw [itc_neg hN]
    have eA := nB hN
    have ft := c_fail hW (k + 4) 1 (nI (tq b n p))
    refine flt 1 ?_
    refine (ge_X6_readHypothesis_0 (k + 5) 14 M).trans ?_
    simp only [T_X6_readHypothesis_0, W_14 hW, gd_true, fO, fA, ex_in, bnd_s, bnd2_s, cal_s, Nat.reduceLT, true_and, and_true, and_self, nI_z, vp_iff, up2_if, Nat.reduceEqDiff, false_and, and_false, if_false, if_true, nI_1, nI_le_, nI_lt_, nI_lt0, nI_eq_, nI_add, eA, hk.1, ft, nar0]
    rfl
end RH
