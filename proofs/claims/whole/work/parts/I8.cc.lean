/-! PARTS in the class: all collected -/
section CC8
variable {M M0 M1 : Mem} {c s n kk : Nat} {H : List (Nat × Fm)} {gf : Fm}
/-- the numbers of the parts -/
def SPt (M : Mem) (c : Nat) (H : List (Nat × Fm)) (gf : Fm) (v : Nat) : Prop := v < c ∧ StF H gf (dC M v)
theorem MkS.s75 {P : Fm → Prop} (h : MkS M c s P) (hF : Fr S75 M M1) : MkS M1 c s P := by
  have d1 : ∀ i, dC M1 i = dC M i := fun i => by rw [dC_fq hF.q (by unfold S75; omega) (by unfold S75; omega) (by unfold S75; omega)]
  refine ⟨h.1, (hF.int (by unfold S75; omega)).trans h.2.1, fun i hi => ?_, fun v hv => ?_⟩
  · obtain ⟨m, m1, m2⟩ := h.2.2.1 i hi
    exact ⟨m, m1, (hF.int (by unfold S75; omega)).trans m2⟩
  · rw [hF.int (by unfold S75; omega), d1]
    exact h.2.2.2 v hv
theorem SPt.ch (hT : TabC M c) {v : Nat} (h : SPt M c H gf v) {j a b : Nat} (h1 : 9 ≤ j) (h2 : j ≤ 11) (ha : a < v) (hb : b < v) (e : dC M v = mkF j (dC M a) (dC M b)) : SPt M c H gf a ∧ SPt M c H gf b := by
  have hv := h.1
  have h3 := h.2
  rw [e] at h3
  obtain ⟨u1, u2⟩ := StF_pt gf j _ _ h1 h2 h3
  exact ⟨⟨by omega, u1⟩, ⟨by omega, u2⟩⟩
set_option maxHeartbeats 1000000 in
theorem co_loop (hW0 : Wd M0) (hT0 : TabC M0 c) (hM0 : MkS M0 c s (StF H gf)) (h420 : cP (SPt M0 c H gf) 5200 ≤ 420) : ∀ z v, v + z = 5200 → ∀ (M : Mem), Fr S75 M0 M → PrS M (SPt M0 c H gf) v → ∃ M1, lpC4 (n + 1) (nI (cP (SPt M0 c H gf) 5200 - cP (SPt M0 c H gf) v)) v M = some ((), M1) ∧ Fr S75 M M1 ∧ PrS M1 (SPt M0 c H gf) 5200 := by
  obtain ⟨S, hSe⟩ : ∃ S, S = SPt M0 c H gf := ⟨_, rfl⟩
  rw [← hSe] at h420 ⊢
  have hc := hT0.2.1
  intro z
  induction z with
  | zero =>
    intro v hv M F hP
    have : v = 5200 := by omega
    subst this
    refine ⟨M, ?_, Fr.refl, hP⟩
    refine (ge_X5_collect_40 (n + 1 + 1) 74 _ (nI 5200) M).trans ?_
    unfold T_X5_collect_40
    have h52 : ((5200 : Int32) ≤ nI 5200) = True := eq_true (by decide)
    simp only [h52, ↓reduceIte]
  | succ z ih =>
    intro v hv M F hP
    have hW := F.Wd hW0
    obtain ⟨T1, d1⟩ := hT0.s75 F
    have hM := hM0.s75 F
    have hle := cP_le (S := S) (show v ≤ 5200 by omega)
    by_cases hleft : cP S 5200 = cP S v
    · refine ⟨M, ?_, Fr.refl, by rw [hleft]; exact hP.1, fun u hu hSu => hP.2 u ?_ hSu⟩
      · refine (ge_X5_collect_40 (n + 1 + 1) 74 _ (nI v) M).trans ?_
        unfold T_X5_collect_40
        have h52 : ((5200 : Int32) ≤ nI v) = False := eq_false (by rw [show (5200 : Int32) = nI 5200 from rfl, nI_le_ (by omega) (by omega)]; omega)
        have hx0 : (nI (cP S 5200 - cP S v) ≤ (0 : Int32)) = True := eq_true (by rw [show cP S 5200 - cP S v = 0 by omega]; decide)
        simp only [h52, hx0, ↓reduceIte]
      · apply Nat.lt_of_not_le
        intro q
        have h1 := cP_lt hSu hu
        have h2 := cP_le (S := S) q
        omega
    · by_cases hS : S v
      · have hSv : SPt M0 c H gf v := by rw [← hSe]; exact hS
        have hvc := hSv.1
        have hPv : StF H gf (dC M v) := by rw [d1]; exact hSv.2
        -- the spots of its parts
        have sp : ∃ y1 y2, SpV S (M.2.2.1 4 v) y1 ∧ SpV S (M.2.2.1 5 v) y2 ∧ (∀ a, M.2.2.1 4 v = nI a → a < 5200 → a < v) ∧ ∀ a, M.2.2.1 5 v = nI a → a < 5200 → a < v := by
          by_cases h9 : v < 9
          · rcases T1.2.2.1 v (by omega) with ⟨j, hj, e1, e2, e3⟩ | ⟨j, a, b, h1, h2, ha, hb, e1, e2, e3⟩
            · exact ⟨-1, -1, Or.inl ⟨e2, rfl⟩, Or.inl ⟨e3, rfl⟩, fun a q _ => by rw [e2] at q; exact absurd q.symm (of_eq_false (nI_ne_m1 (by omega))), fun a q _ => by rw [e3] at q; exact absurd q.symm (of_eq_false (nI_ne_m1 (by omega)))⟩
            · have := T1.2.2.2.2.1 v h9
              rw [e1] at this
              have := (nI_eq (by omega) (by omega)).mp this
              omega
          · obtain ⟨j, a, b, j1, j2, ha, hb, e1, e2, e3, e4⟩ := T1.node (by omega) hvc
            have e4' : dC M0 v = mkF j (dC M0 a) (dC M0 b) := by rw [← d1 v, ← d1 a, ← d1 b]; exact e4
            obtain ⟨sa, sb⟩ := hSv.ch hT0 j1 j2 ha hb e4'
            rw [← hSe] at sa sb
            exact ⟨_, _, Or.inr ⟨a, by omega, sa, e2, rfl⟩, Or.inr ⟨b, by omega, sb, e3, rfl⟩, fun u q hu => by rw [e2] at q; have := (nI_eq (by omega) (by omega)).mp q; omega, fun u q hu => by rw [e3] at q; have := (nI_eq (by omega) (by omega)).mp q; omega⟩
        obtain ⟨y1, y2, sp1, sp2, lt1, lt2⟩ := sp
        have hi4 : cP S v < 420 := by omega
        have st := co_one (n := n + 1) hW T1 hM hvc hPv (by omega) (i := cP S v) (x := cP S 5200 - cP S v) hP.1 hi4 (by omega) (by omega) (y1 := y1) (y2 := y2) (fun hW' h75 => sp1.sp hW' (fun a ha h5 e => by rw [h75 a (by have := lt1 a e h5; omega)]; exact (hP.2 a (lt1 a e h5) ha).1)) (fun hW' h75 => sp2.sp hW' (fun a ha h5 e => by rw [h75 a (by have := lt2 a e h5; omega)]; exact (hP.2 a (lt2 a e h5) ha).1))
        obtain ⟨M1, hM1⟩ : ∃ M1, M1 = wI (wI (wI (wI (wI M 75 v (nI (cP S v))) 76 (cP S v) (M.2.2.1 3 v)) 77 (cP S v) y1) 78 (cP S v) y2) 74 6 (nI (cP S v + 1)) := ⟨_, rfl⟩
        rw [← hM1] at st
        have F1 : Fr (fun a k => (a = 75 ∧ k = v) ∨ ((a = 76 ∨ a = 77 ∨ a = 78) ∧ k = cP S v) ∨ (a = 74 ∧ k = 6)) M M1 := by
          rw [hM1]
          exact ((((Fr.refl.wI (Or.inl ⟨rfl, rfl⟩) _).wI (Or.inr (Or.inl ⟨by omega, rfl⟩)) _).wI (Or.inr (Or.inl ⟨by omega, rfl⟩)) _).wI (Or.inr (Or.inl ⟨by omega, rfl⟩)) _).wI (Or.inr (Or.inr ⟨rfl, rfl⟩)) _
        have F1' : Fr S75 M M1 := F1.mono (fun a k q => by unfold S75; omega)
        have hP1 : PrS M1 S (v + 1) := by
          refine ⟨by rw [cP_y hS, hM1]; simp [up2_if], fun u hu hSu => ?_⟩
          have b3 : M1.2.2.1 3 u = M.2.2.1 3 u := F1.int (by omega)
          have b4 : M1.2.2.1 4 u = M.2.2.1 4 u := F1.int (by omega)
          have b5 : M1.2.2.1 5 u = M.2.2.1 5 u := F1.int (by omega)
          rw [b3, b4, b5]
          by_cases e : u = v
          · subst e
            refine ⟨by rw [hM1]; simp [up2_if], by rw [hM1]; simp [up2_if], ?_, ?_⟩
            · have : M1.2.2.1 77 (cP S u) = y1 := by rw [hM1]; simp [up2_if]
              rw [this]; exact sp1
            · have : M1.2.2.1 78 (cP S u) = y2 := by rw [hM1]; simp [up2_if]
              rw [this]; exact sp2
          · have hlt := cP_lt hSu (show u < v by omega)
            obtain ⟨q1, q2, q3, q4⟩ := hP.2 u (by omega) hSu
            have o75 : M1.2.2.1 75 u = M.2.2.1 75 u := F1.int (by omega)
            have o76 : ∀ a, (a = 76 ∨ a = 77 ∨ a = 78) → M1.2.2.1 a (cP S u) = M.2.2.1 a (cP S u) := fun a ha => F1.int (by omega)
            rw [o75, o76 76 (by omega), o76 77 (by omega), o76 78 (by omega)]
            exact ⟨q1, q2, q3, q4⟩
        obtain ⟨M2, y, F2, P2⟩ := ih (v + 1) (by omega) M1 (F.trans F1') hP1
        refine ⟨M2, ?_, F1'.trans F2, P2⟩
        rw [st, show cP S 5200 - cP S v - 1 = cP S 5200 - cP S (v + 1) by rw [cP_y hS]; omega]
        exact y
      · have hnot : ¬ (v < c ∧ StF H gf (dC M v)) := fun q => hS (by rw [hSe]; exact ⟨q.1, by rw [← d1]; exact q.2⟩)
        have k0 := (c_isMarked (n := n + 1) hW T1 hM (show v < 5200 by omega)).2 hnot
        have hP1 : PrS M S (v + 1) := ⟨by rw [cP_n hS]; exact hP.1, fun u hu hSu => hP.2 u (by
          by_cases e : u = v
          · subst e; exact absurd hSu hS
          · omega) hSu⟩
        obtain ⟨M2, y, F2, P2⟩ := ih (v + 1) (by omega) M F hP1
        refine ⟨M2, ?_, F2, P2⟩
        rw [cP_n hS] at y
        refine (ge_X5_collect_40 (n + 1 + 1) 74 _ (nI v) M).trans ?_
        unfold T_X5_collect_40
        have h52 : ((5200 : Int32) ≤ nI v) = False := eq_false (by rw [show (5200 : Int32) = nI 5200 from rfl, nI_le_ (by omega) (by omega)]; omega)
        have hx0 : (nI (cP S 5200 - cP S v) ≤ (0 : Int32)) = False := eq_false (by rw [show (0 : Int32) = nI 0 from rfl, nI_le_ (by omega) (by omega)]; omega)
        have h42 : ((420 : Int32) ≤ nI (cP S v)) = False := eq_false (by rw [show (420 : Int32) = nI 420 from rfl, nI_le_ (by omega) (by omega)]; omega)
        obtain ⟨m, hm⟩ : ∃ m, m = n + 1 := ⟨_, rfl⟩
        rw [← hm] at k0 y ⊢
        simp only [h52, hx0, ↓reduceIte, ↓gd_pos (fO74 hW), hP.1, h42, ↓bnd_of (r_74_0 hW), ↓gd_pos (fO_2 hW), ↓bnd2_of (show cal (m + 1) (fun zz => f_X1_isMarked zz 2 (nI v) M) = _ from k0), nI_1]
        exact y
def S28p (a k : Nat) : Prop := S28 a k ∨ S75 a k
set_option maxHeartbeats 1000000 in
theorem c_collectG (hW : Wd M) (hT : TabC M c) (hH : HyC M 10 c H) {g : Nat} (g1 : g < c) (g3 : dC M g = gf) (hHw : ∀ x, x ∈ H → wdf x.2 ≤ 60) (hgw : wdf gf ≤ 60) (hm : MkC kk M) (hkk : kk < 900) (n : Nat) : ∃ M1, f_X5_collect (n + 3) 74 10 (nI g) M = some ((), M1) ∧ Fr S28p M M1 ∧ PrS M1 (SPt M c H gf) 5200 ∧ MkC (kk + 1) M1 ∧ cP (SPt M c H gf) 5200 ≤ 420 := by
  have hc := hT.2.1
  obtain ⟨m, hmm⟩ : ∃ m, m = n + 2 := ⟨_, rfl⟩
  obtain ⟨M1, s, y1, F1, S1, hs⟩ := c_beginMarks hW hT hm hkk m
  have hW1 := F1.Wd hW
  obtain ⟨T1, d1⟩ := hT.s28 F1
  have H1 : HyC M1 10 c H := hH.up F1 (fun a k q => by unfold S28 at q; omega) (fun i _ => d1 i) (Nat.le_refl _)
  obtain ⟨M2, y2, F2, S2⟩ := mf_loop (n := n + 1) H.length 0 (by omega) M1 _ hW1 T1 H1 S1
  have y2' : f_X2_markFormulas (n + 1 + 1) 10 2 M1 = some ((), M2) := (ge_X2_markFormulas_0 (n + 1 + 1) 10 2 M1).trans y2
  rw [show n + 1 + 1 = m by omega] at y2'
  have F12 := F1.trans F2
  have hW2 := F12.Wd hW
  obtain ⟨T2, d2⟩ := hT.s28 F12
  obtain ⟨w3, M3, y3, F3, S3, -, -⟩ := c_mark hW2 T2 S2 m g1
  have F13 := F12.trans F3
  have hW3 := F13.Wd hW
  obtain ⟨T3, d3⟩ := hT.s28 F13
  obtain ⟨M4, P4, y4, F4, S4, c1, c2, c3, -⟩ := mp_loop2 (U := StF H gf) (StF_pt gf) (n + 1) c M3 _ 0 hW3 T3 (Nat.le_refl _) S3 (fun u hu q => by
    rcases q with (q | ⟨j, -, hj, q⟩) | q
    · exact q.elim
    · rw [q]; exact Or.inr ⟨j, hj, prt_self _⟩
    · rw [q, d2, g3]; exact Or.inl (prt_self _)) (fun u hu hu2 => by omega)
  rw [if_neg (by omega), Nat.zero_add] at y4
  have F14 := F13.trans F4
  have hW4 := F14.Wd hW
  obtain ⟨T4, d4⟩ := hT.s28 F14
  have iff4 : ∀ u, u < c → (P4 (dC M3 u) ↔ StF H gf (dC M u)) := fun u hu => by
    refine ⟨fun q => by rw [← d3]; exact c2 u hu q, fun q => ?_⟩
    rw [← d3] at q
    rcases q with q | ⟨j, hj, q⟩
    · exact prt_cl T3 c3 gf ⟨g, g1, by rw [d3]; exact g3⟩ (c1 _ (Or.inr (by rw [d2, g3]))) q
    · obtain ⟨u2, u1, -, -, u4, -⟩ := hH.2.2 j hj
      exact prt_cl T3 c3 H[j].2 ⟨u2, u1, by rw [d3]; exact u4⟩ (c1 _ (Or.inl (Or.inr ⟨j, Nat.zero_le _, hj, rfl⟩))) q
  have S4' : MkS M4 c s (StF H gf) := S4.iff (fun u hu => by
    have := iff4 u hu
    rw [d4, ← d3 u]
    rw [← d3 u] at this
    exact this)
  -- the numbers of the parts
  have hSe : SPt M4 c H gf = SPt M c H gf := by
    funext v
    unfold SPt
    rw [d4]
  have hcnt : cP (fun v => P4 (dC M3 v)) c = cP (SPt M c H gf) c := cP_iff c (fun v hv => ⟨fun q => ⟨hv, (iff4 v hv).mp q⟩, fun q => (iff4 v hv).mpr q.2⟩)
  have hc52 : cP (SPt M c H gf) 5200 = cP (SPt M c H gf) c := by
    have : ∀ d, cP (SPt M c H gf) (c + d) = cP (SPt M c H gf) c := by
      intro d
      induction d with
      | zero => rfl
      | succ d ih => rw [← Nat.add_assoc, cP_n (fun q => by have := q.1; omega), ih]
    have := this (5200 - c)
    rw [show c + (5200 - c) = 5200 by omega] at this
    exact this
  have h420 : cP (SPt M c H gf) 5200 ≤ 420 := by
    rw [hc52, ← cP_iff (S := fun v => StF H gf (dC M v)) c (fun v hv => ⟨fun q => ⟨hv, q⟩, fun q => q.2⟩)]
    exact parts_420 hT hH.2.1 hHw hgw
  rw [hcnt, ← hc52] at y4
  have F5 : Fr S75 M4 (wI M4 74 6 0) := Fr.refl.wI (Or.inl ⟨rfl, rfl⟩) _
  obtain ⟨M6, y6, F6, P6⟩ := co_loop (n := n + 1) hW4 T4 S4' (by rw [hSe]; exact h420) 5200 0 (by omega) (wI M4 74 6 0) F5 ⟨by simp [up2_if]; rfl, fun u hu => by omega⟩
  rw [hSe, show cP (SPt M c H gf) 0 = 0 from rfl, Nat.sub_zero] at y6
  rw [hSe] at P6
  have F46 := F5.trans F6
  refine ⟨M6, ?_, (F14.mono (fun a k q => Or.inl q)).trans (F46.mono (fun a k q => Or.inr q)), P6, (S4'.s75 F46).mc hs, h420⟩
  rw [show n + 3 = m + 1 by omega]
  refine (ge_X5_collect_0 (m + 1) 74 10 (nI g) M).trans ?_
  unfold T_X5_collect_0
  have e7 : M3.2.2.1 2 7 - 1 = nI (c - 1) := by rw [T3.1]; exact nI_sub (b := 1) (by omega) (by omega)
  have y4' : f_X1_markParts m 2 M3 = some (nI (cP (SPt M c H gf) 5200), M4) := by
    rw [show m = n + 1 + 1 by omega]
    refine (ge_X1_markParts_0 (n + 1 + 1) 2 M3).trans ?_
    unfold T_X1_markParts_0
    simp only [↓gd_pos (fO_2 hW3), e7]
    exact y4
  have hO10 : fO M1 10 2 := ⟨by rw [hW1.1]; omega, s_10 hW1⟩
  simp only [↓gd_pos (fO74 hW), ↓bnd_of (r_74_0 hW), ↓gd_pos (fO_2 hW), ↓bnd2_of (show cal (m + 1) (fun zz => f_X1_beginMarks zz 2 M) = _ from y1), ↓gd_pos (fO74 hW1), ↓bnd_of (r_74_0 hW1), ↓gd_pos hO10, ↓bnd2_of (show cal (m + 1) (fun zz => f_X2_markFormulas zz 10 2 M1) = _ from y2'), ↓gd_pos (fO74 hW2), ↓bnd_of (r_74_0 hW2), ↓gd_pos (fO_2 hW2), ↓bnd2_of (show cal (m + 1) (fun zz => f_X1_mark zz 2 (nI g) M2) = _ from y3), ↓gd_pos (fO74 hW3), ↓bnd_of (r_74_0 hW3), ↓gd_pos (fO_2 hW3), ↓bnd2_of (show cal (m + 1) (fun zz => f_X1_markParts zz 2 M3) = _ from y4'), ↓gd_pos (fO74 hW4)]
  rw [show m = n + 1 + 1 by omega]
  exact y6
theorem c_collect (hW : Wd M) (hT : TabC M c) (hH : HyC M 10 c H) (hG : GlC M c gf) (hHw : ∀ x, x ∈ H → wdf x.2 ≤ 60) (hgw : wdf gf ≤ 60) (hm : MkC kk M) (hkk : kk < 900) (n : Nat) : ∃ M1, f_X5_collect (n + 3) 74 10 (M.2.2.1 0 16) M = some ((), M1) ∧ Fr S28p M M1 ∧ PrS M1 (SPt M c H gf) 5200 ∧ MkC (kk + 1) M1 ∧ cP (SPt M c H gf) 5200 ≤ 420 := by
  obtain ⟨g, g1, g2, g3, -⟩ := hG
  rw [g2]
  exact c_collectG hW hT hH g1 g3 hHw hgw hm hkk n
end CC8
