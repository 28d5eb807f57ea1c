/-! LINES in the class: the walk along the tree -/
section FM6
variable {M M0 M1 : Mem} {tr c n : Nat} {lr : List (Nat × Tm)} {acc : List Ln} {W : List Int32} {tl : Nat → Fm} {d p : Nat}
noncomputable abbrev lpF (n K : Nat) (M : Mem) : Option (Unit × Mem) := lp (st_X4_fill (n + 1)) (41, [.ref 67, .ref 40, .int (nI K)], M)
theorem wkC.s7 (h : wkC M W) (hF : Fr S6q M M1) : wkC M1 W := ⟨(hF.int (by unfold S6q S67; omega)).trans h.1, h.2.1, fun i x hi => (hF.int (by unfold S6q S67; omega)).trans (h.2.2 i x hi)⟩
theorem fl_end (hW : Wd M) (hw : wkC M W) {K : Nat} (hK : W[K]? = some (nI p)) (hp : p < 1000) (e : f_X4_endNode (n + 1) 67 40 (nI p) M = some ((), M1)) : lpF (n + 1) K M = lpF (n + 1) (K + 1) M1 := by
  have hlt : K < W.length := by
    apply Nat.lt_of_not_le
    intro q
    rw [List.getElem?_eq_none q] at hK
    cases hK
  have h4 := hw.2.1
  have y := c_stop hW hw n hK
  obtain ⟨m, hm⟩ : ∃ m, m = n + 1 := ⟨_, rfl⟩
  rw [← hm] at y e ⊢
  refine (ge_X4_fill_41 (m + 1) 67 40 (nI K) M).trans ?_
  unfold T_X4_fill_41
  have hle : (nI W.length ≤ nI K) = False := eq_false (by rw [nI_le_ (by omega) (by omega)]; omega)
  have hge : ((0 : Int32) ≤ nI p) = True := eq_true (by rw [show (0 : Int32) = nI 0 from rfl, nI_le_ (by omega) (by omega)]; omega)
  simp (disch := omega) only [↓gd_pos (fO40 hW), hw.1, hle, ↓reduceIte, ↓bnd2_of (show cal (m + 1) (fun zz => f_X3_stop zz 40 (nI K) M) = _ from y), hge, ↓gd_pos (fO67 hW), ↓bnd2_of (show cal (m + 1) (fun zz => f_X4_endNode zz 67 40 (nI p) M) = _ from e), nI_1]
theorem fl_take (hW : Wd M) (hw : wkC M W) {K : Nat} (hK : W[K]? = some (-1 - nI p)) (hp : p < 1000) (e : f_X4_takeOn (n + 1) 67 40 (nI p) M = some ((), M1)) : lpF (n + 1) K M = lpF (n + 1) (K + 1) M1 := by
  have hlt : K < W.length := by
    apply Nat.lt_of_not_le
    intro q
    rw [List.getElem?_eq_none q] at hK
    cases hK
  have h4 := hw.2.1
  obtain ⟨g, hg⟩ : ∃ g, g = -1 - nI p := ⟨_, rfl⟩
  rw [← hg] at hK
  have y := c_stop hW hw n hK
  have hge : ((0 : Int32) ≤ g) = False := eq_false (by rw [hg]; exact Int32.not_le.mpr (hy_neg (by omega)))
  have hgi : -1 - g = nI p := by rw [hg]; exact neg_n1 p
  obtain ⟨z, hz⟩ : ∃ z, z = -1 - g := ⟨_, rfl⟩
  rw [← hgi, ← hz] at e
  obtain ⟨m, hm⟩ : ∃ m, m = n + 1 := ⟨_, rfl⟩
  rw [← hm] at y e ⊢
  clear hg hgi
  refine (ge_X4_fill_41 (m + 1) 67 40 (nI K) M).trans ?_
  unfold T_X4_fill_41
  have hle : (nI W.length ≤ nI K) = False := eq_false (by rw [nI_le_ (by omega) (by omega)]; omega)
  simp (disch := omega) only [↓gd_pos (fO40 hW), hw.1, hle, ↓reduceIte, ↓bnd2_of (show cal (m + 1) (fun zz => f_X3_stop zz 40 (nI K) M) = _ from y), hge, ↓gd_pos (fO67 hW), ← hz, ↓bnd2_of (show cal (m + 1) (fun zz => f_X4_takeOn zz 67 40 z M) = _ from e), nI_1]
theorem j3 {P : Nat → Prop} (h0 : P 0) (h1 : P 1) (h2 : P 2) : ∀ j, j < 3 → P j := fun j hj => by
  have : j = 0 ∨ j = 1 ∨ j = 2 := by omega
  rcases this with rfl | rfl | rfl
  · exact h0
  · exact h1
  · exact h2
theorem LnC.s72 (h : LnC M c acc) (x : Int32) : LnC (wI M 72 p x) c acc ∧ Fr (fun a k => a = 72 ∧ k = p) M (wI M 72 p x) := by
  have F : Fr (fun a k => a = 72 ∧ k = p) M (wI M 72 p x) := Fr.refl.wI ⟨rfl, rfl⟩ _
  exact ⟨h.fr F (fun a k q => by omega) (fun i => by rw [dC_fq F.q (by omega) (by omega) (by omega)]), F⟩
set_option maxHeartbeats 2000000 in
theorem fl_main {h : Nat} {Hf : Nat → Fm} (hL : LtC M0 tr c lr) (hT : TabC M0 c) (hw : wkC M0 W) (hty : ∀ i, i < lr.length → TyQ M0 c i (tl i)) (hh : h ≤ 6) : ∀ t, isT t → ∀ (p d r nn K : Nat) (pa : Int32) (A' Al : Nat → Nat) (G : Nat → Fm) (x : Fm) (acc : List Ln) (M : Mem), Ly M0 t p d pa r nn A' → Ed M0 t p → Sb lr p t → SW W K (wk t p 0) → Wt (fun i y => tl i = y) h Hf t p G d x → d + sz t ≤ 200 → Fr S6q M0 M → LnC M c acc → acc.length + 2 * sz t ≤ 406 → (∀ k, k < d → M.2.2.1 73 k = nI (Al k)) → ∃ M1, lpF (n + 2) K M = lpF (n + 2) (K + (wk t p 0).length) M1 ∧ Fr (SLn p (p + sz t) d) M M1 ∧ LnC M1 c (lnF tl t p d Al acc).2 ∧ M1.2.2.1 72 p = nI (lnF tl t p d Al acc).1 := by
  have h200 := hL.2.2.2.2.1
  apply tm_ind
  · intro k p d r nn K pa A' Al G x acc M hY hE hS hK htw hd F hN hl hA
    obtain ⟨o1, o2, o3⟩ := opl_of hS.L
    have hM := hL.s7 F
    have e := en_name (n := n) hM o3 o1 (ln := Al k) (Or.inl ⟨k, by have := htw.1; rw [sz_L] at hd; omega, o2, hA k htw.1⟩)
    obtain ⟨N1, F1⟩ := hN.s72 (p := p) (nI (Al k))
    have hK : SW W K [nI p] := hK
    exact ⟨_, fl_end hM.1 (hw.s7 F) hK.hd.1 (by omega) e, F1.mono (fun a k q => by unfold SLn; rw [sz_L]; omega), N1, by simp [up2_if]; rfl⟩
  · intro k p d r nn K pa A' Al G x acc M hY hE hS hK htw hd F hN hl hA
    obtain ⟨o1, o2, o3⟩ := opl_of hS.H
    have hM := hL.s7 F
    have e := en_name (n := n) hM o3 o1 (ln := k) (Or.inr ⟨k, by have := htw.1; omega, o2, rfl⟩)
    obtain ⟨N1, F1⟩ := hN.s72 (p := p) (nI k)
    have hK : SW W K [nI p] := hK
    exact ⟨_, fl_end hM.1 (hw.s7 F) hK.hd.1 (by omega) e, F1.mono (fun a k q => by unfold SLn; rw [sz_H]; omega), N1, by simp [up2_if]; rfl⟩
  · intro o f a ho ha ih p d r nn K pa A' Al G x acc M hY hE hS hK htw hd F hN hl hA
    obtain ⟨s1, s2⟩ := hS.U
    obtain ⟨o1, o2, o3⟩ := opl_of s1
    have o1 : opl lr p = o := o1
    have o2 : lbl lr p = f := o2
    have hrng := ho.rng
    have har : ar o = 1 := ar_U ho
    have hps := sz_pos a ha
    have hle2 := s2.le
    rw [sz_U] at hd hl
    obtain ⟨hY1, hY2⟩ := hY
    obtain ⟨hE1, hE2⟩ := hE
    obtain ⟨-, y, w2, -⟩ := htw
    have hend : M0.2.2.1 41 (p + 1) = nI (p + 1 + sz a) := Ed.at_ a ha hE2
    by_cases h2 : o = 2
    · subst h2
      have hKe : wk (tU 2 f a) p 0 = ((-1 - nI (p + 1)) :: wk a (p + 1) 0) ++ [nI p] := by
        show wk a (p + 1) 1 ++ [nI p] = _
        rw [wk_1 a ha]
      rw [hKe] at hK ⊢
      obtain ⟨K1, K2⟩ := hK.app
      obtain ⟨K3, K4⟩ := K1.hd
      have hat := Ly.at_ a ha hY2
      obtain ⟨t1, t2, t3, -⟩ := hat
      obtain ⟨M1, e1, F1, N1, g1⟩ := c_takeOn (n := n) (d := d) hL hT F hN (by omega) (q0 := p + 1) (lim := 200) (f := f) (by omega) t1 (by omega) ⟨by omega, p, 0, o3, t2, t3, by omega, Or.inl ⟨o1, o2⟩⟩ (by omega)
      have F01 : Fr S6q M0 M1 := F.trans (F1.mono (fun a k q => by unfold S67 at q; unfold S6q S67; omega))
      have hA1 : ∀ k, k < d + 1 → M1.2.2.1 73 k = nI (ups Al d acc.length k) := fun k hk => by
        by_cases e : k = d
        · rw [e, ups_at]; exact g1
        · rw [ups_ne _ _ e, F1.int (by unfold S67; omega)]; exact hA k (by omega)
      obtain ⟨rr, hrr⟩ : ∃ rr, rr = lnF tl a (p + 1) (d + 1) (ups Al d acc.length) (lnT acc f (d + 1)) := ⟨_, rfl⟩
      obtain ⟨M2, e2, F2, N2, g2⟩ := ih (p + 1) (d + 1) 0 (nn + 1) (K + 1) (nI p) _ (ups Al d acc.length) _ y (lnT acc f (d + 1)) M1 hY2 hE2 s2 K4 w2 (by omega) F01 N1 (by rw [List.length_append]; simp only [List.length_cons, List.length_nil]; omega) hA1
      have hlen := (lnF_len tl a ha (p + 1) (d + 1) (ups Al d acc.length) (lnT acc f (d + 1))).1
      rw [← hrr] at N2 g2 hlen
      rw [List.length_append] at hlen
      simp only [List.length_cons, List.length_nil] at hlen
      have F02 : Fr S6q M0 M2 := F01.trans (F2.mono (fun a k q => q.q))
      obtain ⟨M3, wh, g, e3, F3, N3, g3, hg⟩ := en_node (n := n) (tl := tl) (x0 := nI acc.length) hL hT (hty p o3) F02 N2 (by omega) o3 (by omega) hY1.1 (by omega) (fun _ => (F2.int (by unfold SLn S67; omega)).trans g1)
      rw [o1] at e3 N3 hg
      obtain ⟨-, rfl, hg0, hg1, hg2⟩ := hg.resolve_right (fun q => q.1 rfl)
      have F03 : Fr S6q M0 M3 := F02.trans (F3.mono (fun a k q => by unfold S67 at q; unfold S6q S67; omega))
      obtain ⟨M4, e4, F4, N4⟩ := g_go (n := n + 1) (F03.Wd hL.1) (o := 2) (by omega) (by omega) N3 (wh := 1) (q := p + 1) (q1 := p + 1 + sz a) (r := 0) (x := nI rr.1) (by omega) (by omega) (by omega) ((F3.int (by unfold S67; omega)).trans g2) ((F03.int (by unfold S6q S67; omega)).trans hend)
      rw [e4, g_end (n := n + 1) (p := 2) (by omega) (by omega) (by omega) (by omega)] at e3
      have kk : ((-1 - nI (p + 1)) :: wk a (p + 1) 0).length = 1 + (wk a (p + 1) 0).length := by simp only [List.length_cons]; omega
      rw [kk] at K2
      refine ⟨M4, ?_, ?_, ?_, ?_⟩
      · rw [fl_take (F.Wd hL.1) (hw.s7 F) K3 (by omega) e1, e2, show K + 1 + (wk a (p + 1) 0).length = K + (1 + (wk a (p + 1) 0).length) by omega, fl_end (F02.Wd hL.1) (hw.s7 F02) K2.hd.1 (by omega) e3, List.length_append, kk]
        rfl
      · rw [sz_U]
        exact (((F1.mono (fun a k q => by unfold S67 at q; unfold SLn S67; omega)).trans (F2.mono (fun a k q => by unfold SLn S67 at q ⊢; omega))).trans (F3.mono (fun a k q => by unfold S67 at q; unfold SLn S67; omega))).trans (F4.mono (fun a k q => by unfold S67 at q; unfold SLn S67; omega))
      · rw [lnF_2 hrr]
        exact N4.last (j3 (by simp [frm3, hg0]) (by simp [frm3]) (by simp [frm3, hg2]))
      · rw [lnF_2 hrr]
        exact (F4.int (by unfold S67; omega)).trans g3
    · have hK : SW W K (wk a (p + 1) (amN o 0) ++ [nI p]) := hK
      have htw0 : (wk (tU o f a) p 0) = wk a (p + 1) 0 ++ [nI p] := by
        show wk a (p + 1) (amN o 0) ++ [nI p] = _
        rw [am_2 h2]
      rw [am_2 h2] at hK hY2
      rw [if_neg h2] at hY2
      rw [htw0]
      obtain ⟨K1, K2⟩ := hK.app
      rw [am_2 h2, if_neg h2] at w2
      obtain ⟨rr, hrr⟩ : ∃ rr, rr = lnF tl a (p + 1) d Al acc := ⟨_, rfl⟩
      obtain ⟨M2, e2, F2, N2, g2⟩ := ih (p + 1) d 0 (nn + 1) K (nI p) _ Al _ y acc M hY2 hE2 s2 K1 w2 (by omega) F hN (by omega) hA
      have hlen := (lnF_len tl a ha (p + 1) d Al acc).1
      rw [← hrr] at N2 g2 hlen
      have F02 : Fr S6q M0 M2 := F.trans (F2.mono (fun a k q => q.q))
      obtain ⟨M3, wh, g, e3, F3, N3, g3, hg⟩ := en_node (n := n) (tl := tl) (x0 := 0) hL hT (hty p o3) F02 N2 (by omega) o3 (by omega) hY1.1 (by omega) (fun q => absurd (o1.symm.trans q) h2)
      rw [o1] at e3 N3 hg
      obtain ⟨-, rfl, hg0, hg1, hg2⟩ := hg.resolve_left (fun q => h2 q.1)
      have F03 : Fr S6q M0 M3 := F02.trans (F3.mono (fun a k q => by unfold S67 at q; unfold S6q S67; omega))
      obtain ⟨M4, e4, F4, N4⟩ := g_go (n := n + 1) (F03.Wd hL.1) (o := o) (by omega) (by omega) N3 (wh := 0) (q := p + 1) (q1 := p + 1 + sz a) (r := 0) (x := nI rr.1) (by omega) (by omega) (by omega) ((F3.int (by unfold S67; omega)).trans g2) ((F03.int (by unfold S6q S67; omega)).trans hend)
      rw [e4, g_end (n := n + 1) (p := o) (by omega) (by omega) (by omega) (by omega)] at e3
      refine ⟨M4, ?_, ?_, ?_, ?_⟩
      · rw [e2, fl_end (F02.Wd hL.1) (hw.s7 F02) K2.hd.1 (by omega) e3, List.length_append]
        rfl
      · rw [sz_U]
        exact ((F2.mono (fun a k q => by unfold SLn S67 at q ⊢; omega)).trans (F3.mono (fun a k q => by unfold S67 at q; unfold SLn S67; omega))).trans (F4.mono (fun a k q => by unfold S67 at q; unfold SLn S67; omega))
      · rw [lnF_U h2 hrr]
        exact N4.last (j3 (by simp [frm3]) (by simp [frm3, hg1]) (by simp [frm3, hg2]))
      · rw [lnF_U h2 hrr]
        exact (F4.int (by unfold S67; omega)).trans g3
  · intro o a b ho ha hb ia ib p d r nn K pa A' Al G x acc M hY hE hS hK htw hd F hN hl hA
    obtain ⟨s1, s2, s3⟩ := hS.B
    obtain ⟨o1, o2, o3⟩ := opl_of s1
    have o1 : opl lr p = o := o1
    have har : ar o = 2 := ar_B ho
    have hpa := sz_pos a ha
    have hpb := sz_pos b hb
    have hle2 := s2.le
    have hle3 := s3.le
    rw [sz_B] at hd hl
    have hY : at2 M0 p d pa r nn ∧ Ly M0 a (p + 1) d (nI p) 0 (nn + 1) A' ∧ Ly M0 b (p + 1 + sz a) d (nI p) 1 (nn + 1) A' := hY
    obtain ⟨hY1, hY2, hY3⟩ := hY
    obtain ⟨-, hE2, hE3⟩ := hE
    obtain ⟨-, y, z, w2, w3, -⟩ := htw
    have hend2 : M0.2.2.1 41 (p + 1) = nI (p + 1 + sz a) := Ed.at_ a ha hE2
    have hend3 : M0.2.2.1 41 (p + 1 + sz a) = nI (p + 1 + sz a + sz b) := Ed.at_ b hb hE3
    have hKe : wk (tB o a b) p 0 = wk a (p + 1) 0 ++ (wk b (p + 1 + sz a) 0 ++ [nI p]) := rfl
    rw [hKe] at hK ⊢
    obtain ⟨K1, K2⟩ := hK.app
    obtain ⟨K3, K4⟩ := K2.app
    obtain ⟨rr, hrr⟩ : ∃ rr, rr = lnF tl a (p + 1) d Al acc := ⟨_, rfl⟩
    obtain ⟨ss, hss⟩ : ∃ ss, ss = lnF tl b (p + 1 + sz a) d Al rr.2 := ⟨_, rfl⟩
    obtain ⟨M1, e1, F1, N1, g1⟩ := ia (p + 1) d 0 (nn + 1) K (nI p) _ Al _ y acc M hY2 hE2 s2 K1 w2 (by omega) F hN (by omega) hA
    have hlen1 := (lnF_len tl a ha (p + 1) d Al acc).1
    rw [← hrr] at N1 g1 hlen1
    have F01 : Fr S6q M0 M1 := F.trans (F1.mono (fun a k q => q.q))
    obtain ⟨M2, e2, F2, N2, g2⟩ := ib (p + 1 + sz a) d 1 (nn + 1) (K + (wk a (p + 1) 0).length) (nI p) _ Al _ z rr.2 M1 hY3 hE3 s3 K3 w3 (by omega) F01 N1 (by omega) (fun k hk => (F1.int (by unfold SLn S67; omega)).trans (hA k hk))
    have hlen2 := (lnF_len tl b hb (p + 1 + sz a) d Al rr.2).1
    rw [← hss] at N2 g2 hlen2
    have F02 : Fr S6q M0 M2 := F01.trans (F2.mono (fun a k q => q.q))
    obtain ⟨M3, wh, g, e3, F3, N3, g3, hg⟩ := en_node (n := n) (tl := tl) (x0 := 0) hL hT (hty p o3) F02 N2 (by omega) o3 (by omega) hY1.1 (by omega) (fun q => by omega)
    rw [o1] at e3 N3 hg
    obtain ⟨-, rfl, hg0, hg1, hg2⟩ := hg.resolve_left (fun q => by omega)
    have F03 : Fr S6q M0 M3 := F02.trans (F3.mono (fun a k q => by unfold S67 at q; unfold S6q S67; omega))
    obtain ⟨M4, e4, F4, N4⟩ := g_go (n := n + 1) (F03.Wd hL.1) (o := o) (by omega) (by omega) N3 (wh := 0) (q := p + 1) (q1 := p + 1 + sz a) (r := 0) (x := nI rr.1) (by omega) (by omega) (by omega) ((F3.int (by unfold S67; omega)).trans ((F2.int (by unfold SLn S67; omega)).trans g1)) ((F03.int (by unfold S6q S67; omega)).trans hend2)
    have F04 : Fr S6q M0 M4 := F03.trans (F4.mono (fun a k q => Or.inl q))
    obtain ⟨M5, e5, F5, N5⟩ := g_go (n := n + 1) (F04.Wd hL.1) (o := o) (by omega) (by omega) N4 (wh := 1) (q := p + 1 + sz a) (q1 := p + 1 + sz a + sz b) (r := 1) (x := nI ss.1) (by omega) (by omega) (by omega) ((F4.int (by unfold S67; omega)).trans ((F3.int (by unfold S67; omega)).trans g2)) ((F04.int (by unfold S6q S67; omega)).trans hend3)
    rw [e4, e5, g_end (n := n + 1) (p := o) (by omega) (by omega) (by omega) (by omega)] at e3
    refine ⟨M5, ?_, ?_, ?_, ?_⟩
    · rw [e1, e2, fl_end (F02.Wd hL.1) (hw.s7 F02) K4.hd.1 (by omega) e3, List.length_append, List.length_append, show K + (wk a (p + 1) 0).length + (wk b (p + 1 + sz a) 0).length + 1 = K + ((wk a (p + 1) 0).length + ((wk b (p + 1 + sz a) 0).length + [nI p].length)) by simp only [List.length_cons, List.length_nil]; omega]
    · rw [sz_B]
      exact ((((F1.mono (fun a k q => by unfold SLn S67 at q ⊢; omega)).trans (F2.mono (fun a k q => by unfold SLn S67 at q ⊢; omega))).trans (F3.mono (fun a k q => by unfold S67 at q; unfold SLn S67; omega))).trans (F4.mono (fun a k q => by unfold S67 at q; unfold SLn S67; omega))).trans (F5.mono (fun a k q => by unfold S67 at q; unfold SLn S67; omega))
    · rw [lnF_B hrr hss]
      exact N5.last (j3 (by simp [frm3]) (by simp [frm3]) (by simp [frm3, hg2]))
    · rw [lnF_B hrr hss]
      exact (F5.int (by unfold S67; omega)).trans ((F4.int (by unfold S67; omega)).trans g3)
  · intro m a b hm ha hb im ia ib p d r nn K pa A' Al G x acc M hY hE hS hK htw hd F hN hl hA
    obtain ⟨s1, s2, s3, s4⟩ := hS.C
    obtain ⟨o1, o2, o3⟩ := opl_of s1
    have o1 : opl lr p = 9 := o1
    have har : ar 9 = 3 := rfl
    have hpm := sz_pos m hm
    have hpa := sz_pos a ha
    have hpb := sz_pos b hb
    have hle2 := s2.le
    have hle3 := s3.le
    have hle4 := s4.le
    rw [sz_C] at hd hl
    obtain ⟨hY1, hY2, hY3, hY4⟩ := hY
    obtain ⟨-, hE2, hE3, hE4⟩ := hE
    obtain ⟨-, y, z, w2, w3, w4⟩ := htw
    have htp : tl (p + 1) = .sub y z := w2.root m hm
    have hend2 : M0.2.2.1 41 (p + 1) = nI (p + 1 + sz m) := Ed.at_ m hm hE2
    have hend3 : M0.2.2.1 41 (p + 1 + sz m) = nI (p + 1 + sz m + sz a) := Ed.at_ a ha hE3
    have hend4 : M0.2.2.1 41 (p + 1 + sz m + sz a) = nI (p + 1 + sz m + sz a + sz b) := Ed.at_ b hb hE4
    have hKe : wk (tC m a b) p 0 = wk m (p + 1) 0 ++ (((-1 - nI (p + 1 + sz m)) :: wk a (p + 1 + sz m) 0) ++ (((-1 - nI (p + 1 + sz m + sz a)) :: wk b (p + 1 + sz m + sz a) 0) ++ [nI p])) := by
      show wk m (p + 1) 0 ++ (wk a (p + 1 + sz m) 1 ++ (wk b (p + 1 + sz m + sz a) 1 ++ [nI p])) = _
      rw [wk_1 a ha, wk_1 b hb]
    rw [hKe] at hK ⊢
    obtain ⟨K1, K2⟩ := hK.app
    obtain ⟨K3, K4⟩ := K2.app
    obtain ⟨K5, K6⟩ := K4.app
    obtain ⟨K7, K8⟩ := K3.hd
    obtain ⟨K9, KA⟩ := K5.hd
    obtain ⟨v, v1, v2, v3⟩ := hty (p + 1) (by omega)
    rw [htp] at v3
    obtain ⟨rr, hrr⟩ : ∃ rr, rr = lnF tl m (p + 1) d Al acc := ⟨_, rfl⟩
    obtain ⟨ss, hss⟩ : ∃ ss, ss = lnF tl a (p + 1 + sz m) (d + 1) (ups Al d rr.2.length) (lnT rr.2 (fL (tl (p + 1))) (d + 1)) := ⟨_, rfl⟩
    obtain ⟨uu, huu⟩ : ∃ uu, uu = lnF tl b (p + 1 + sz m + sz a) (d + 1) (ups Al d ss.2.length) (lnT ss.2 (fR (tl (p + 1))) (d + 1)) := ⟨_, rfl⟩
    -- what the cases are of
    obtain ⟨M1, e1, F1, N1, g1⟩ := im (p + 1) d 0 (nn + 1) K (nI p) _ Al _ _ acc M hY2 hE2 s2 K1 w2 (by omega) F hN (by omega) hA
    have hlen1 := (lnF_len tl m hm (p + 1) d Al acc).1
    rw [← hrr] at N1 g1 hlen1
    have F01 : Fr S6q M0 M1 := F.trans (F1.mono (fun a k q => q.q))
    -- the one arm
    obtain ⟨t1, t2, t3, -⟩ := Ly.at_ a ha hY3
    obtain ⟨M2, e2, F2, N2, g2⟩ := c_takeOn (n := n) (d := d) hL hT F01 N1 (by omega) (q0 := p + 1 + sz m) (lim := 200) (f := fL (tl (p + 1))) (by omega) t1 (by omega) ⟨by omega, p, 1, o3, t2, t3, by omega, Or.inr ⟨o1, by omega, by omega, v, y, z, v1, v2, v3, by rw [htp]; rfl⟩⟩ (by omega)
    have F02 : Fr S6q M0 M2 := F01.trans (F2.mono (fun a k q => by unfold S67 at q; unfold S6q S67; omega))
    have hA2 : ∀ k, k < d + 1 → M2.2.2.1 73 k = nI (ups Al d rr.2.length k) := fun k hk => by
      by_cases e : k = d
      · rw [e, ups_at]; exact g2
      · rw [ups_ne _ _ e, F2.int (by unfold S67; omega), F1.int (by unfold SLn S67; omega)]; exact hA k (by omega)
    obtain ⟨M3, e3, F3, N3, g3⟩ := ia (p + 1 + sz m) (d + 1) 1 (nn + 1) (K + (wk m (p + 1) 0).length + 1) (nI p) _ (ups Al d rr.2.length) _ x (lnT rr.2 (fL (tl (p + 1))) (d + 1)) M2 hY3 hE3 s3 K8 w3 (by omega) F02 N2 (by rw [List.length_append]; simp only [List.length_cons, List.length_nil]; omega) hA2
    have hlen2 := (lnF_len tl a ha (p + 1 + sz m) (d + 1) (ups Al d rr.2.length) (lnT rr.2 (fL (tl (p + 1))) (d + 1))).1
    rw [← hss] at N3 g3 hlen2
    rw [List.length_append] at hlen2
    simp only [List.length_cons, List.length_nil] at hlen2
    have F03 : Fr S6q M0 M3 := F02.trans (F3.mono (fun a k q => q.q))
    -- the other
    obtain ⟨t1', t2', t3', -⟩ := Ly.at_ b hb hY4
    obtain ⟨M4, e4, F4, N4, g4⟩ := c_takeOn (n := n) (d := d) hL hT F03 N3 (by omega) (q0 := p + 1 + sz m + sz a) (lim := 200) (f := fR (tl (p + 1))) (by omega) t1' (by omega) ⟨by omega, p, 2, o3, t2', t3', by omega, Or.inr ⟨o1, by omega, by omega, v, y, z, v1, v2, v3, by rw [htp]; rfl⟩⟩ (by omega)
    have F04 : Fr S6q M0 M4 := F03.trans (F4.mono (fun a k q => by unfold S67 at q; unfold S6q S67; omega))
    have hA4 : ∀ k, k < d + 1 → M4.2.2.1 73 k = nI (ups Al d ss.2.length k) := fun k hk => by
      by_cases e : k = d
      · rw [e, ups_at]; exact g4
      · rw [ups_ne _ _ e, F4.int (by unfold S67; omega), F3.int (by unfold SLn S67; omega), F2.int (by unfold S67; omega), F1.int (by unfold SLn S67; omega)]; exact hA k (by omega)
    have kk1 : ((-1 - nI (p + 1 + sz m)) :: wk a (p + 1 + sz m) 0).length = 1 + (wk a (p + 1 + sz m) 0).length := by simp only [List.length_cons]; omega
    have kk2 : ((-1 - nI (p + 1 + sz m + sz a)) :: wk b (p + 1 + sz m + sz a) 0).length = 1 + (wk b (p + 1 + sz m + sz a) 0).length := by simp only [List.length_cons]; omega
    rw [kk1] at K9 KA K6
    rw [kk2] at K6
    obtain ⟨M5, e5, F5, N5, g5⟩ := ib (p + 1 + sz m + sz a) (d + 1) 2 (nn + 1) (K + (wk m (p + 1) 0).length + (1 + (wk a (p + 1 + sz m) 0).length) + 1) (nI p) _ (ups Al d ss.2.length) _ x (lnT ss.2 (fR (tl (p + 1))) (d + 1)) M4 hY4 hE4 s4 KA w4 (by omega) F04 N4 (by rw [List.length_append]; simp only [List.length_cons, List.length_nil]; omega) hA4
    have hlen3 := (lnF_len tl b hb (p + 1 + sz m + sz a) (d + 1) (ups Al d ss.2.length) (lnT ss.2 (fR (tl (p + 1))) (d + 1))).1
    rw [← huu] at N5 g5 hlen3
    rw [List.length_append] at hlen3
    simp only [List.length_cons, List.length_nil] at hlen3
    have F05 : Fr S6q M0 M5 := F04.trans (F5.mono (fun a k q => q.q))
    -- the end
    obtain ⟨M6, wh, g, e6, F6, N6, g6, hg⟩ := en_node (n := n) (tl := tl) (x0 := 0) hL hT (hty p o3) F05 N5 (by omega) o3 (by omega) hY1.1 (by omega) (fun q => by omega)
    rw [o1] at e6 N6 hg
    obtain ⟨-, rfl, hg0, hg1, hg2⟩ := hg.resolve_left (fun q => by omega)
    have F06 : Fr S6q M0 M6 := F05.trans (F6.mono (fun a k q => by unfold S67 at q; unfold S6q S67; omega))
    have r1 : M6.2.2.1 72 (p + 1) = nI rr.1 := (F6.int (by unfold S67; omega)).trans ((F5.int (by unfold SLn S67; omega)).trans ((F4.int (by unfold S67; omega)).trans ((F3.int (by unfold SLn S67; omega)).trans ((F2.int (by unfold S67; omega)).trans g1))))
    have r2 : M6.2.2.1 72 (p + 1 + sz m) = nI ss.1 := (F6.int (by unfold S67; omega)).trans ((F5.int (by unfold SLn S67; omega)).trans ((F4.int (by unfold S67; omega)).trans g3))
    have r3 : M6.2.2.1 72 (p + 1 + sz m + sz a) = nI uu.1 := (F6.int (by unfold S67; omega)).trans g5
    obtain ⟨M7, e7, F7, N7⟩ := g_go (n := n + 1) (F06.Wd hL.1) (o := 9) (by omega) (by omega) N6 (wh := 0) (q := p + 1) (q1 := p + 1 + sz m) (r := 0) (x := nI rr.1) (by omega) (by omega) (by omega) r1 ((F06.int (by unfold S6q S67; omega)).trans hend2)
    have F07 : Fr S6q M0 M7 := F06.trans (F7.mono (fun a k q => Or.inl q))
    obtain ⟨M8, e8, F8, N8⟩ := g_go (n := n + 1) (F07.Wd hL.1) (o := 9) (by omega) (by omega) N7 (wh := 1) (q := p + 1 + sz m) (q1 := p + 1 + sz m + sz a) (r := 1) (x := nI ss.1) (by omega) (by omega) (by omega) ((F7.int (by unfold S67; omega)).trans r2) ((F07.int (by unfold S6q S67; omega)).trans hend3)
    have F08 : Fr S6q M0 M8 := F07.trans (F8.mono (fun a k q => Or.inl q))
    obtain ⟨M9, e9, F9, N9⟩ := g_go (n := n + 1) (F08.Wd hL.1) (o := 9) (by omega) (by omega) N8 (wh := 2) (q := p + 1 + sz m + sz a) (q1 := p + 1 + sz m + sz a + sz b) (r := 2) (x := nI uu.1) (by omega) (by omega) (by omega) ((F8.int (by unfold S67; omega)).trans ((F7.int (by unfold S67; omega)).trans r3)) ((F08.int (by unfold S6q S67; omega)).trans hend4)
    rw [e7, e8, e9, g_end (n := n + 1) (p := 9) (by omega) (by omega) (by omega) (by omega)] at e6
    refine ⟨M9, ?_, ?_, ?_, ?_⟩
    · rw [e1, fl_take (F01.Wd hL.1) (hw.s7 F01) K7 (by omega) e2, e3, show K + (wk m (p + 1) 0).length + 1 + (wk a (p + 1 + sz m) 0).length = K + (wk m (p + 1) 0).length + (1 + (wk a (p + 1 + sz m) 0).length) by omega, fl_take (F03.Wd hL.1) (hw.s7 F03) K9 (by omega) e4, e5, show K + (wk m (p + 1) 0).length + (1 + (wk a (p + 1 + sz m) 0).length) + 1 + (wk b (p + 1 + sz m + sz a) 0).length = K + (wk m (p + 1) 0).length + (1 + (wk a (p + 1 + sz m) 0).length) + (1 + (wk b (p + 1 + sz m + sz a) 0).length) by omega, fl_end (F05.Wd hL.1) (hw.s7 F05) K6.hd.1 (by omega) e6, List.length_append, List.length_append, List.length_append, kk1, kk2, show K + (wk m (p + 1) 0).length + (1 + (wk a (p + 1 + sz m) 0).length) + (1 + (wk b (p + 1 + sz m + sz a) 0).length) + 1 = K + ((wk m (p + 1) 0).length + (1 + (wk a (p + 1 + sz m) 0).length + (1 + (wk b (p + 1 + sz m + sz a) 0).length + [nI p].length))) by simp only [List.length_cons, List.length_nil]; omega]
    · rw [sz_C]
      have A1 : Fr (SLn p (p + (sz m + sz a + sz b + 1)) d) M M5 := ((((F1.mono (fun a k q => by unfold SLn S67 at q ⊢; omega)).trans (F2.mono (fun a k q => by unfold S67 at q; unfold SLn S67; omega))).trans (F3.mono (fun a k q => by unfold SLn S67 at q ⊢; omega))).trans (F4.mono (fun a k q => by unfold S67 at q; unfold SLn S67; omega))).trans (F5.mono (fun a k q => by unfold SLn S67 at q ⊢; omega))
      exact (((A1.trans (F6.mono (fun a k q => by unfold S67 at q; unfold SLn S67; omega))).trans (F7.mono (fun a k q => Or.inl q))).trans (F8.mono (fun a k q => Or.inl q))).trans (F9.mono (fun a k q => Or.inl q))
    · rw [lnF_C hrr hss huu]
      exact N9.last (j3 (by simp [frm3]) (by simp [frm3]) (by simp [frm3]))
    · rw [lnF_C hrr hss huu]
      exact (F9.int (by unfold S67; omega)).trans ((F8.int (by unfold S67; omega)).trans ((F7.int (by unfold S67; omega)).trans g6))
end FM6
