/-! LINES in the reference: all of a term -/
section LM0
variable {M M0 M1 : Mem} {c d p : Nat} {acc : List Ln} {l : List (Nat × Tm)} {tl : Nat → Fm}
theorem fr56 (hF : Fr S56 M M1) {d : Nat} : Fr (SLr d) M M1 := hF.mono (fun a k q => by unfold S56 at q; unfold SLr; omega)
theorem fr22 {x : Int32} : Fr (fun a k => a = 122 ∧ k = d) M (wI M 122 d x) := Fr.refl.wI ⟨rfl, rfl⟩ _
set_option maxHeartbeats 2000000 in
theorem lf_main {h : Nat} {Hf : Nat → Fm} (hW0 : Wd M0) (hT0 : TabR M0 c) (hR0 : WrkR M0 c l) (hty : ∀ i, i < l.length → TyR M0 c i (tl i)) (hh : h ≤ 6) : ∀ t, isT t → ∀ (p d K : Nat) (Al : Nat → Nat) (G : Nat → Fm) (x : Fm) (acc : List Ln) (M : Mem), Sb l p t → Wt (fun i y => tl i = y) h Hf t p G d x → d + sz t ≤ 200 → Fr (SLr 0) M0 M → LnR M c acc → acc.length + 2 * sz t ≤ 410 → (∀ k, k < d → M.2.2.1 122 k = nI (Al k)) → M.2.2.1 89 43 = nI p → ∃ M1, f_X11_linesFrom (sz t + 1 + K) 89 (nI d) M = some (nI (lnF tl t p d Al acc).1, M1) ∧ Fr (SLr d) M M1 ∧ LnR M1 c (lnF tl t p d Al acc).2 ∧ M1.2.2.1 89 43 = nI (p + sz t) := by
  have hl4 := hR0.2.1
  have hc := hT0.2.1
  have nx : ∀ {M : Mem} {acc : List Ln} (q : Nat), LnR M c acc → LnR (wI M 89 43 (nI q)) c acc ∧ Fr S43 M (wI M 89 43 (nI q)) ∧ (wI M 89 43 (nI q)).2.2.1 89 43 = nI q := by
    intro M acc q hN
    have F : Fr S43 M (wI M 89 43 (nI q)) := Fr.refl.wI ⟨rfl, rfl⟩ _
    exact ⟨hN.fr F (fun a k q => by unfold S43 at q; omega), F, by simp [up2_if]⟩
  have f43 : ∀ {M M1 : Mem} {d : Nat}, Fr S43 M M1 → Fr (SLr d) M M1 := fun hF => hF.mono (fun a k q => by unfold S43 at q; unfold SLr; omega)
  apply tm_ind
  · intro k p d K Al G x acc M hS htw hd F hN hl hA h43
    obtain ⟨o1, o2, o3⟩ := opl_of hS.L
    obtain ⟨N1, F1, g1⟩ := nx (p + 1) hN
    refine ⟨_, ?_, f43 F1, N1, g1⟩
    rw [show sz (tL k) + 1 + K = (1 + K) + 1 by rw [sz_L]; omega, lf_eq]
    exact lf_name (F.Wd hW0) (hR0.lr F) h43 o3 o1 (Or.inl ⟨k, by have := htw.1; rw [sz_L] at hd; omega, o2, hA k htw.1⟩)
  · intro k p d K Al G x acc M hS htw hd F hN hl hA h43
    obtain ⟨o1, o2, o3⟩ := opl_of hS.H
    obtain ⟨N1, F1, g1⟩ := nx (p + 1) hN
    refine ⟨_, ?_, f43 F1, N1, g1⟩
    rw [show sz (tH k) + 1 + K = (1 + K) + 1 by rw [sz_H]; omega, lf_eq]
    exact lf_name (F.Wd hW0) (hR0.lr F) h43 o3 o1 (Or.inr ⟨k, by have := htw.1; omega, o2, rfl⟩)
  · intro o f a ho ha ih p d K Al G x acc M hS htw hd F hN hl hA h43
    obtain ⟨s1, s2⟩ := hS.U
    obtain ⟨o1, o2, o3⟩ := opl_of s1
    have o1 : opl l p = o := o1
    have o2 : lbl l p = f := o2
    have hrng := ho.rng
    have hps := sz_pos a ha
    have hle2 := s2.le
    rw [sz_U] at hd hl
    obtain ⟨-, y, w2, -⟩ := htw
    have hW := F.Wd hW0
    have hR := hR0.lr F
    obtain ⟨NA, FA, gA⟩ := nx (p + 1) hN
    obtain ⟨MA, hMA⟩ : ∃ MA, MA = wI M 89 43 (nI (p + 1)) := ⟨_, rfl⟩
    rw [← hMA] at NA FA gA
    have F0A : Fr (SLr 0) M0 MA := F.trans (f43 FA)
    have hWA := F0A.Wd hW0
    obtain ⟨n, hn⟩ : ∃ n, n = sz a + 1 + K := ⟨_, rfl⟩
    rw [show sz (tU o f a) + 1 + K = n + 1 by rw [sz_U]; omega, lf_eq]
    by_cases h2 : o = 2
    · subst h2
      obtain ⟨i, i1, i2, i3⟩ := hR.told o3 (by rw [o1]; exact Or.inl rfl)
      rw [o2] at i3
      have i3A : dR MA i = f := (dR_o FA (fun a k q => by unfold S43 at q; omega) i).trans i3
      obtain ⟨M1, y1, F1, N1⟩ := rx_line0 (n := n) hWA NA (by omega) i1 1 (d + 1)
      rw [i3A] at N1
      have y1' : f_X11_line0 n 89 1 (nI i) (nI (d + 1)) MA = some (nI acc.length, M1) := y1
      have hW1 := F1.Wd hWA
      have F2 := fr22 (M := M1) (d := d) (x := nI acc.length)
      have N2 := N1.fr F2 (fun a k q => by omega)
      have F02 : Fr (SLr 0) M0 (wI M1 122 d (nI acc.length)) := (F0A.trans (fr56 F1)).trans (F2.mono (fun a k q => by unfold SLr; omega))
      obtain ⟨rr, hrr⟩ : ∃ rr, rr = lnF tl a (p + 1) (d + 1) (ups Al d acc.length) (lnT acc f (d + 1)) := ⟨_, rfl⟩
      obtain ⟨M3, e3, F3, N3, g3⟩ := ih (p + 1) (d + 1) K (ups Al d acc.length) _ y (lnT acc f (d + 1)) _ s2 w2 (by omega) F02 N2 (by rw [List.length_append]; simp only [List.length_cons, List.length_nil]; omega) (fun k hk => by
        by_cases e : k = d
        · rw [e, ups_at]; simp [up2_if]
        · rw [ups_ne _ _ e, F2.int (by omega), F1.int (by unfold S56; omega), FA.int (by unfold S43; omega)]; exact hA k (by omega)) ((F2.int (by omega)).trans ((F1.int (by unfold S56; omega)).trans gA))
      have hlen := (lnF_len tl a ha (p + 1) (d + 1) (ups Al d acc.length) (lnT acc f (d + 1))).1
      rw [← hrr] at e3 N3 hlen
      rw [← hn] at e3
      rw [List.length_append] at hlen
      simp only [List.length_cons, List.length_nil] at hlen
      have F03 : Fr (SLr 0) M0 M3 := F02.trans (F3.mono (fun a k q => q.z))
      obtain ⟨M4, e4, F4, N4⟩ := lf_210 (cl := r_X11_linesFrom n) (n := n) (d := d) hR0 (hty p o3) F03 hW0 N3 (by omega) o3 (by omega) (nI acc.length) (nI rr.1) (-1)
      rw [hMA] at y1'
      refine ⟨M4, ?_, ?_, ?_, ?_⟩
      · rw [lf_fun hW hR h43 o3 o1 (by omega) i2 y1' hW1 e3, e4, lnF_2 hrr]
      · exact ((((f43 FA).trans (fr56 F1)).trans (F2.mono (fun a k q => by unfold SLr; omega))).trans (F3.mono (fun a k q => by unfold SLr at q ⊢; omega))).trans (fr56 F4)
      · rw [lnF_2 hrr, ← o1]
        exact N4
      · rw [F4.int (by unfold S56; omega), g3, sz_U]
        congr 1
        omega
    · have ea := am_2 h2
      rw [ea, if_neg h2] at w2
      obtain ⟨rr, hrr⟩ : ∃ rr, rr = lnF tl a (p + 1) d Al acc := ⟨_, rfl⟩
      obtain ⟨M3, e3, F3, N3, g3⟩ := ih (p + 1) d K Al _ y acc MA s2 w2 (by omega) F0A NA (by omega) (fun k hk => (FA.int (by unfold S43; omega)).trans (hA k hk)) gA
      have hlen := (lnF_len tl a ha (p + 1) d Al acc).1
      rw [← hrr] at e3 N3 hlen
      rw [← hn] at e3
      have F03 : Fr (SLr 0) M0 M3 := F0A.trans (F3.mono (fun a k q => q.z))
      obtain ⟨M4, e4, F4, N4⟩ := lf_210 (cl := r_X11_linesFrom n) (n := n) (d := d) hR0 (hty p o3) F03 hW0 N3 (by omega) o3 (by omega) (nI rr.1) (-1) (-1)
      have e3' : r_X11_linesFrom n 0 [.ref 89, .int (nI d)] (wI M 89 43 (nI (p + 1))) = some (nI rr.1, M3) := by rw [← hMA]; exact e3
      refine ⟨M4, ?_, ?_, ?_, ?_⟩
      · rw [lf_one hW hR h43 (by omega) (by omega) (by omega) (by omega) (by omega) e3', lf_144 (by omega) (by omega) (by omega), e4, lnF_U h2 hrr]
      · exact ((f43 FA).trans F3).trans (fr56 F4)
      · rw [lnF_U h2 hrr, ← o1]
        exact N4
      · rw [F4.int (by unfold S56; omega), g3, sz_U]
        congr 1
        omega
  · intro o a b ho ha hb ia ib p d K Al G x acc M hS htw hd F hN hl hA h43
    obtain ⟨s1, s2, s3⟩ := hS.B
    obtain ⟨o1, o2, o3⟩ := opl_of s1
    have o1 : opl l p = o := o1
    have hpa := sz_pos a ha
    have hpb := sz_pos b hb
    have hle2 := s2.le
    have hle3 := s3.le
    rw [sz_B] at hd hl
    obtain ⟨-, y, z, w2, w3, -⟩ := htw
    have hW := F.Wd hW0
    have hR := hR0.lr F
    obtain ⟨NA, FA, gA⟩ := nx (p + 1) hN
    obtain ⟨MA, hMA⟩ : ∃ MA, MA = wI M 89 43 (nI (p + 1)) := ⟨_, rfl⟩
    rw [← hMA] at NA FA gA
    have F0A : Fr (SLr 0) M0 MA := F.trans (f43 FA)
    obtain ⟨n, hn⟩ : ∃ n, n = sz a + sz b + 1 + K := ⟨_, rfl⟩
    rw [show sz (tB o a b) + 1 + K = n + 1 by rw [sz_B]; omega, lf_eq]
    obtain ⟨rr, hrr⟩ : ∃ rr, rr = lnF tl a (p + 1) d Al acc := ⟨_, rfl⟩
    obtain ⟨ss, hss⟩ : ∃ ss, ss = lnF tl b (p + 1 + sz a) d Al rr.2 := ⟨_, rfl⟩
    obtain ⟨M2, e2, F2, N2, g2⟩ := ia (p + 1) d (sz b + K) Al _ y acc MA s2 w2 (by omega) F0A NA (by omega) (fun k hk => (FA.int (by unfold S43; omega)).trans (hA k hk)) gA
    have hlen := (lnF_len tl a ha (p + 1) d Al acc).1
    rw [← hrr] at e2 N2 hlen
    rw [show sz a + 1 + (sz b + K) = n by omega] at e2
    have F02 : Fr (SLr 0) M0 M2 := F0A.trans (F2.mono (fun a k q => q.z))
    obtain ⟨M3, e3, F3, N3, g3⟩ := ib (p + 1 + sz a) d (sz a + K) Al _ z rr.2 M2 s3 w3 (by omega) F02 N2 (by omega) (fun k hk => (F2.int (by unfold SLr; omega)).trans ((FA.int (by unfold S43; omega)).trans (hA k hk))) g2
    have hlen2 := (lnF_len tl b hb (p + 1 + sz a) d Al rr.2).1
    rw [← hss] at e3 N3 hlen2
    rw [show sz b + 1 + (sz a + K) = n by omega] at e3
    have F03 : Fr (SLr 0) M0 M3 := F02.trans (F3.mono (fun a k q => q.z))
    obtain ⟨M4, e4, F4, N4⟩ := lf_210 (cl := r_X11_linesFrom n) (n := n) (d := d) hR0 (hty p o3) F03 hW0 N3 (by omega) o3 (by omega) (nI rr.1) (nI ss.1) (-1)
    have e2' : r_X11_linesFrom n 0 [.ref 89, .int (nI d)] (wI M 89 43 (nI (p + 1))) = some (nI rr.1, M2) := by rw [← hMA]; exact e2
    refine ⟨M4, ?_, ?_, ?_, ?_⟩
    · rw [lf_two hW hR h43 (by omega) (by omega) e2' (F02.Wd hW0) e3, lf_144 (by omega) (by omega) (by omega), e4, lnF_B hrr hss]
    · exact (((f43 FA).trans F2).trans F3).trans (fr56 F4)
    · rw [lnF_B hrr hss, ← o1]
      exact N4
    · rw [F4.int (by unfold S56; omega), g3, sz_B]
      congr 1
      omega
  · intro m a b hm ha hb im ia ib p d K Al G x acc M hS htw hd F hN hl hA h43
    obtain ⟨s1, s2, s3, s4⟩ := hS.C
    obtain ⟨o1, o2, o3⟩ := opl_of s1
    have o1 : opl l p = 9 := o1
    have hpm := sz_pos m hm
    have hpa := sz_pos a ha
    have hpb := sz_pos b hb
    have hle2 := s2.le
    have hle3 := s3.le
    have hle4 := s4.le
    rw [sz_C] at hd hl
    obtain ⟨-, y, z, w2, w3, w4⟩ := htw
    have htp : tl (p + 1) = .sub y z := w2.root m hm
    have hW := F.Wd hW0
    have hR := hR0.lr F
    obtain ⟨v, v1, v2, v3⟩ := hty (p + 1) (by omega)
    rw [htp] at v3
    -- the parts of what the cases are of
    obtain ⟨i, j, i1, j1, e91, e92, di, dj⟩ : ∃ i j, i < c ∧ j < c ∧ M0.2.2.1 91 v = nI i ∧ M0.2.2.1 92 v = nI j ∧ dR M0 i = y ∧ dR M0 j = z := by
      rcases hT0.cases v1 with ⟨u, -, -, -, -, e4⟩ | ⟨u, i, j, u1, u2, hi, hj, -, e2, e3, e4⟩
      · rw [v3] at e4; cases e4
      · rw [v3] at e4
        obtain ⟨-, ex, ey⟩ := mkF_inj (j := 11) (by omega) (by omega) u1 u2 e4
        exact ⟨i, j, by omega, by omega, e2, e3, ex.symm, ey.symm⟩
    obtain ⟨NA, FA, gA⟩ := nx (p + 1) hN
    obtain ⟨MA, hMA⟩ : ∃ MA, MA = wI M 89 43 (nI (p + 1)) := ⟨_, rfl⟩
    rw [← hMA] at NA FA gA
    have F0A : Fr (SLr 0) M0 MA := F.trans (f43 FA)
    obtain ⟨n, hn⟩ : ∃ n, n = sz m + sz a + sz b + 1 + K := ⟨_, rfl⟩
    rw [show sz (tC m a b) + 1 + K = n + 1 by rw [sz_C]; omega, lf_eq]
    obtain ⟨rr, hrr⟩ : ∃ rr, rr = lnF tl m (p + 1) d Al acc := ⟨_, rfl⟩
    obtain ⟨ss, hss⟩ : ∃ ss, ss = lnF tl a (p + 1 + sz m) (d + 1) (ups Al d rr.2.length) (lnT rr.2 (fL (tl (p + 1))) (d + 1)) := ⟨_, rfl⟩
    obtain ⟨uu, huu⟩ : ∃ uu, uu = lnF tl b (p + 1 + sz m + sz a) (d + 1) (ups Al d ss.2.length) (lnT ss.2 (fR (tl (p + 1))) (d + 1)) := ⟨_, rfl⟩
    have eL : fL (tl (p + 1)) = y := by rw [htp]; rfl
    have eR : fR (tl (p + 1)) = z := by rw [htp]; rfl
    obtain ⟨M1, e1, F1, N1, g1⟩ := im (p + 1) d (sz a + sz b + K) Al _ _ acc MA s2 w2 (by omega) F0A NA (by omega) (fun k hk => (FA.int (by unfold S43; omega)).trans (hA k hk)) gA
    have hlen1 := (lnF_len tl m hm (p + 1) d Al acc).1
    rw [← hrr] at e1 N1 hlen1
    rw [show sz m + 1 + (sz a + sz b + K) = n by omega] at e1
    have F01 : Fr (SLr 0) M0 M1 := F0A.trans (F1.mono (fun a k q => q.z))
    have dr : ∀ {M' : Mem}, Fr (SLr 0) M0 M' → ∀ i, dR M' i = dR M0 i := fun F => dR_o F (fun a k q => by unfold SLr at q; omega)
    have hA1 : ∀ k, k < d → M1.2.2.1 122 k = nI (Al k) := fun k hk => (F1.int (by unfold SLr; omega)).trans ((FA.int (by unfold S43; omega)).trans (hA k hk))
    -- the one arm
    obtain ⟨M2, y2, F2, N2⟩ := rx_line0 (n := n) (F01.Wd hW0) N1 (by omega) i1 1 (d + 1)
    rw [dr F01, di, ← eL] at N2
    have G2 := fr22 (M := M2) (d := d) (x := nI rr.2.length)
    have N2' := N2.fr G2 (fun a k q => by omega)
    have F02 : Fr (SLr 0) M0 (wI M2 122 d (nI rr.2.length)) := (F01.trans (fr56 F2)).trans (G2.mono (fun a k q => by unfold SLr; omega))
    obtain ⟨M3, e3, F3, N3, g3⟩ := ia (p + 1 + sz m) (d + 1) (sz m + sz b + K) (ups Al d rr.2.length) _ x (lnT rr.2 (fL (tl (p + 1))) (d + 1)) _ s3 w3 (by omega) F02 N2' (by rw [List.length_append]; simp only [List.length_cons, List.length_nil]; omega) (fun k hk => by
      by_cases e : k = d
      · rw [e, ups_at]; simp [up2_if]
      · rw [ups_ne _ _ e, G2.int (by omega), F2.int (by unfold S56; omega)]; exact hA1 k (by omega)) ((G2.int (by omega)).trans ((F2.int (by unfold S56; omega)).trans g1))
    have hlen2 := (lnF_len tl a ha (p + 1 + sz m) (d + 1) (ups Al d rr.2.length) (lnT rr.2 (fL (tl (p + 1))) (d + 1))).1
    rw [← hss] at e3 N3 hlen2
    rw [List.length_append] at hlen2
    simp only [List.length_cons, List.length_nil] at hlen2
    rw [show sz a + 1 + (sz m + sz b + K) = n by omega] at e3
    have F03 : Fr (SLr 0) M0 M3 := F02.trans (F3.mono (fun a k q => q.z))
    -- the other
    obtain ⟨M4, y4, F4, N4⟩ := rx_line0 (n := n) (F03.Wd hW0) N3 (by omega) j1 1 (d + 1)
    rw [dr F03, dj, ← eR] at N4
    have G4 := fr22 (M := M4) (d := d) (x := nI ss.2.length)
    have N4' := N4.fr G4 (fun a k q => by omega)
    have F04 : Fr (SLr 0) M0 (wI M4 122 d (nI ss.2.length)) := (F03.trans (fr56 F4)).trans (G4.mono (fun a k q => by unfold SLr; omega))
    obtain ⟨M5, e5, F5, N5, g5⟩ := ib (p + 1 + sz m + sz a) (d + 1) (sz m + sz a + K) (ups Al d ss.2.length) _ x (lnT ss.2 (fR (tl (p + 1))) (d + 1)) _ s4 w4 (by omega) F04 N4' (by rw [List.length_append]; simp only [List.length_cons, List.length_nil]; omega) (fun k hk => by
      by_cases e : k = d
      · rw [e, ups_at]; simp [up2_if]
      · rw [ups_ne _ _ e, G4.int (by omega), F4.int (by unfold S56; omega), F3.int (by unfold SLr; omega), G2.int (by omega), F2.int (by unfold S56; omega)]; exact hA1 k (by omega)) ((G4.int (by omega)).trans ((F4.int (by unfold S56; omega)).trans g3))
    have hlen3 := (lnF_len tl b hb (p + 1 + sz m + sz a) (d + 1) (ups Al d ss.2.length) (lnT ss.2 (fR (tl (p + 1))) (d + 1))).1
    rw [← huu] at e5 N5 hlen3
    rw [List.length_append] at hlen3
    simp only [List.length_cons, List.length_nil] at hlen3
    rw [show sz b + 1 + (sz m + sz a + K) = n by omega] at e5
    have F05 : Fr (SLr 0) M0 M5 := F04.trans (F5.mono (fun a k q => q.z))
    obtain ⟨M6, e6, F6, N6⟩ := lf_210 (cl := r_X11_linesFrom n) (n := n) (d := d) hR0 (hty p o3) F05 hW0 N5 (by omega) o3 (by omega) (nI rr.1) (nI ss.1) (nI uu.1)
    have e1' : r_X11_linesFrom n 0 [.ref 89, .int (nI d)] (wI M 89 43 (nI (p + 1))) = some (nI rr.1, M1) := by rw [← hMA]; exact e1
    have e7 : M.2.2.1 113 (p + 1) = nI v := (F.int (by unfold SLr; omega)).trans v2
    have hi1 : M1.2.2.1 91 v = nI i := (F01.int (by unfold SLr; omega)).trans e91
    have hj1 : M3.2.2.1 92 v = nI j := (F03.int (by unfold SLr; omega)).trans e92
    have e144 := lf_144c (cl := r_X11_linesFrom n) (n := n) (d := d) (p := p) (a := nI rr.1) (b := -1) (e := -1) (show v < 16384 by omega) (by omega) (F01.Wd hW0) ((F01.trans (fr56 (d := 0) F2)).Wd hW0) (F03.Wd hW0) ((F03.trans (fr56 (d := 0) F4)).Wd hW0) hi1 hj1 y2 e3 y4 e5
    rw [o1] at e6
    refine ⟨M6, ?_, ?_, ?_, ?_⟩
    · rw [lf_one hW hR h43 (by omega) (by omega) (by omega) (by omega) (by omega) e1', e7, o1, e144, e6, lnF_C hrr hss huu]
    · have A1 : Fr (SLr d) M M3 := ((((f43 FA).trans F1).trans (fr56 F2)).trans (G2.mono (fun a k q => by unfold SLr; omega))).trans (F3.mono (fun a k q => by unfold SLr at q ⊢; omega))
      exact (((A1.trans (fr56 F4)).trans (G4.mono (fun a k q => by unfold SLr; omega))).trans (F5.mono (fun a k q => by unfold SLr at q ⊢; omega))).trans (fr56 F6)
    · rw [lnF_C hrr hss huu]
      rw [o1] at N6
      exact N6
    · rw [F6.int (by unfold S56; omega), g5, sz_C]
      congr 1
      omega
end LM0
