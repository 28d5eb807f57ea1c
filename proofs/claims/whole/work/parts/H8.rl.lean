/-! LINES in the reference: the table -/
def LnR (M : Mem) (c : Nat) (acc : List Ln) : Prop := M.2.2.1 89 56 = nI acc.length ∧ acc.length ≤ 410 ∧ ∀ i e, acc[i]? = some e → M.2.2.1 118 i = nI e.1 ∧ (∃ v, v < c ∧ M.2.2.1 119 i = nI v ∧ dR M v = e.2.1) ∧ M.2.2.1 121 i = nI e.2.2.1 ∧ ∀ j, j < 3 → M.2.2.1 120 (3 * i + j) = e.2.2.2 j
def S56 (a k : Nat) : Prop := (a = 89 ∧ k = 56) ∨ (118 ≤ a ∧ a ≤ 121)
section RL8
variable {M M0 M1 : Mem} {c n : Nat} {acc : List Ln}
theorem dR_o {S : Nat → Nat → Prop} (hF : Fr S M M1) (hS : ∀ a k, S a k → ¬ (90 ≤ a ∧ a ≤ 92)) : ∀ i, dR M1 i = dR M i := fun i => by rw [dR_fq hF.q (fun k q => hS _ _ q (by omega)) (fun k q => hS _ _ q (by omega)) (fun k q => hS _ _ q (by omega))]
theorem LnR.fr {S : Nat → Nat → Prop} (h : LnR M c acc) (hF : Fr S M M1) (hS : ∀ a k, S a k → ¬ (a = 89 ∧ k = 56) ∧ ¬ (118 ≤ a ∧ a ≤ 121) ∧ ¬ (90 ≤ a ∧ a ≤ 92)) : LnR M1 c acc := by
  have hd := dR_o hF (fun a k q => (hS _ _ q).2.2)
  refine ⟨(hF.int (fun q => (hS _ _ q).1 (by omega))).trans h.1, h.2.1, fun i e hi => ?_⟩
  obtain ⟨h1, ⟨v, v1, v2, v3⟩, h3, h4⟩ := h.2.2 i e hi
  exact ⟨(hF.int (fun q => (hS _ _ q).2.1 (by omega))).trans h1, ⟨v, v1, (hF.int (fun q => (hS _ _ q).2.1 (by omega))).trans v2, (hd v).trans v3⟩, (hF.int (fun q => (hS _ _ q).2.1 (by omega))).trans h3, fun j hj => (hF.int (fun q => (hS _ _ q).2.1 (by omega))).trans (h4 j hj)⟩
theorem ap_cs {acc : List Ln} {e q : Ln} {i : Nat} (h : (acc ++ [e])[i]? = some q) : (i < acc.length ∧ acc[i]? = some q) ∨ (i = acc.length ∧ q = e) := by
  by_cases hil : i < acc.length
  · rw [List.getElem?_append_left hil] at h
    exact Or.inl ⟨hil, h⟩
  · have hie : i = acc.length := by
      have : i < (acc ++ [e]).length := by
        apply Nat.lt_of_not_le
        intro q
        rw [List.getElem?_eq_none q] at h
        cases h
      rw [List.length_append] at this
      simp only [List.length_cons, List.length_nil] at this
      omega
    rw [hie, List.getElem?_append_right (Nat.le_refl _), Nat.sub_self] at h
    cases h
    exact Or.inr ⟨hie, rfl⟩
theorem l0_33 {L : Nat} (hL : L < 410) : ∀ z j, j + z = 3 → ∀ (M : Mem), Wd M → M.2.2.1 89 56 = nI L → ∃ M1, lp (st_X11_line0 n) (33, [.ref 89, .int (nI j)], M) = some (nI L, M1) ∧ M1.2.2.1 89 56 = nI (L + 1) ∧ (∀ i, j ≤ i → i < 3 → M1.2.2.1 120 (3 * L + i) = -1) ∧ Fr (fun a k => (a = 89 ∧ k = 56) ∨ (a = 120 ∧ 3 * L + j ≤ k ∧ k < 3 * L + 3)) M M1 := by
  intro z
  induction z with
  | zero =>
    intro j hj M hW h7
    have : j = 3 := by omega
    subst this
    refine ⟨wI M 89 56 (nI (L + 1)), ?_, by simp [up2_if], fun i h1 h2 => by omega, Fr.refl.wI (Or.inl ⟨rfl, rfl⟩) _⟩
    refine (ge_X11_line0_33 n 89 (nI 3) M).trans ?_
    unfold T_X11_line0_33
    have hm1 : nI (L + 1) - 1 = nI L := nI_sub (b := 1) (by omega) (by omega)
    simp only [show ((3 : Int32) ≤ nI 3) = True from eq_true (by decide), ↓reduceIte, ↓gd_pos (fO_R hW), h7, nI_1, up2_if, and_self, if_true, hm1]
  | succ z ih =>
    intro j hj M hW h7
    have hle : ((3 : Int32) ≤ nI j) = False := eq_false (by rw [show (3 : Int32) = nI 3 from rfl, nI_le_ (by omega) (by omega)]; omega)
    have ei : 3 * nI L + nI j = nI (3 * L + j) := by rw [show (3 : Int32) = nI 3 from rfl, nI_mul, nI_add]
    have fA : fA M 120 1 (nI (3 * L + j)) := fA_R hW (by omega) (s_120 hW) (by omega) (by omega)
    have F : Fr (fun a k => (a = 89 ∧ k = 56) ∨ (a = 120 ∧ 3 * L + j ≤ k ∧ k < 3 * L + 3)) M (wI M 120 (3 * L + j) (-1)) := Fr.refl.wI (Or.inr ⟨rfl, by omega, by omega⟩) _
    obtain ⟨M1, e1, g1, g2, F1⟩ := ih (j + 1) (by omega) (wI M 120 (3 * L + j) (-1)) (F.Wd hW) (by simp [up2_if]; exact h7)
    refine ⟨M1, ?_, g1, fun i h1 h2 => ?_, F.trans (F1.mono (fun a k q => by omega))⟩
    · refine (ge_X11_line0_33 n 89 (nI j) M).trans ?_
      unfold T_X11_line0_33
      simp (disch := omega) only [hle, ↓reduceIte, ↓gd_pos (fO_R hW), ↓bnd_of (r_89_53 hW), h7, ei, ↓gd_pos fA, nI_z, nI_1]
      exact e1
    · by_cases e : i = j
      · subst e
        rw [F1.int (by omega)]
        simp [up2_if]
      · exact g2 i (by omega) h2
theorem rx_line0 (hW : Wd M) (h : LnR M c acc) (hl : acc.length < 410) {v : Nat} (hv : v < c) (rule deep : Nat) : ∃ M1, f_X11_line0 n 89 (nI rule) (nI v) (nI deep) M = some (nI acc.length, M1) ∧ Fr S56 M M1 ∧ LnR M1 c (acc ++ [(rule, dR M v, deep, noF)]) := by
  obtain ⟨L, hL⟩ : ∃ L, L = acc.length := ⟨_, rfl⟩
  rw [← hL] at hl ⊢
  have h7 := h.1
  rw [← hL] at h7
  obtain ⟨M0, hM0⟩ : ∃ M0, M0 = wI (wI (wI M 118 L (nI rule)) 119 L (nI v)) 121 L (nI deep) := ⟨_, rfl⟩
  have F0 : Fr (fun a k => (a = 118 ∨ a = 119 ∨ a = 121) ∧ k = L) M M0 := by
    rw [hM0]
    exact ((Fr.refl.wI ⟨by omega, rfl⟩ _).wI ⟨by omega, rfl⟩ _).wI ⟨by omega, rfl⟩ _
  obtain ⟨M1, e1, g1, g2, F1⟩ := l0_33 (n := n) hl 3 0 (by omega) M0 (F0.Wd hW) ((F0.int (by omega)).trans h7)
  have F : Fr S56 M M1 := (F0.mono (fun a k q => by unfold S56; omega)).trans (F1.mono (fun a k q => by unfold S56; omega))
  have d1 := dR_o F (fun a k q => by unfold S56 at q; omega)
  refine ⟨M1, ?_, F, by rw [g1, List.length_append, ← hL]; rfl, by rw [List.length_append, ← hL]; simp; omega, fun i e hi => ?_⟩
  · refine (ge_X11_line0_0 n 89 (nI rule) (nI v) (nI deep) M).trans ?_
    unfold T_X11_line0_0
    have f8 : fA M 118 1 (nI L) := fA_R hW (by omega) (s_118 hW) (by omega) (by omega)
    have f9 : fA M 119 1 (nI L) := fA_R hW (by omega) (s_119 hW) (by omega) (by omega)
    have f70 : fA M 121 1 (nI L) := fA_R hW (by omega) (s_121 hW) (by omega) (by omega)
    simp (disch := omega) only [↓gd_pos (fO_R hW), ↓bnd_of (r_89_51 hW), h7, ↓gd_pos f8, ↓bnd_of (r_89_52 hW), ↓bnd_of (r_89_54 hW), up2_if, Nat.reduceEqDiff, false_and, if_false, gd_pos f9, gd_pos f70, nI_z, ← hM0]
    exact e1
  · rcases ap_cs hi with ⟨hil, hi⟩ | ⟨hie, he⟩
    · obtain ⟨b1, ⟨u, u1, u2, u3⟩, b3, b4⟩ := h.2.2 i e hi
      have o0 : ∀ a, (a = 118 ∨ a = 119 ∨ a = 121) → M1.2.2.1 a i = M.2.2.1 a i := fun a ha => (F1.int (by omega)).trans (F0.int (by omega))
      exact ⟨(o0 118 (by omega)).trans b1, ⟨u, u1, (o0 119 (by omega)).trans u2, (d1 u).trans u3⟩, (o0 121 (by omega)).trans b3, fun j hj => ((F1.int (by omega)).trans (F0.int (by omega))).trans (b4 j hj)⟩
    · subst he
      have hiL : i = L := by omega
      subst hiL
      have o0 : ∀ a, (a = 118 ∨ a = 119 ∨ a = 121) → M1.2.2.1 a i = M0.2.2.1 a i := fun a ha => F1.int (by omega)
      refine ⟨?_, ⟨v, hv, ?_, d1 v⟩, ?_, fun j hj => g2 j (Nat.zero_le _) hj⟩
      · rw [o0 118 (by omega), hM0]; simp [up2_if]
      · rw [o0 119 (by omega), hM0]; simp [up2_if]
      · rw [o0 121 (by omega), hM0]; simp [up2_if]
/-- its sources -/
theorem LnR.src {rule deep : Nat} {f : Fm} {g : Nat → Int32} (h : LnR M c (acc ++ [(rule, f, deep, g)])) (a b d : Int32) : LnR (wI (wI (wI M 120 (3 * acc.length) a) 120 (3 * acc.length + 1) b) 120 (3 * acc.length + 2) d) c (acc ++ [(rule, f, deep, frm3 a b d)]) ∧ Fr S56 M (wI (wI (wI M 120 (3 * acc.length) a) 120 (3 * acc.length + 1) b) 120 (3 * acc.length + 2) d) := by
  have hl := h.2.1
  rw [List.length_append] at hl
  simp only [List.length_cons, List.length_nil] at hl
  obtain ⟨L, hL⟩ : ∃ L, L = acc.length := ⟨_, rfl⟩
  rw [← hL] at hl ⊢
  obtain ⟨M1, hM1⟩ : ∃ M1, M1 = wI (wI (wI M 120 (3 * L) a) 120 (3 * L + 1) b) 120 (3 * L + 2) d := ⟨_, rfl⟩
  rw [← hM1]
  have F : Fr (fun a k => a = 120 ∧ 3 * L ≤ k ∧ k < 3 * L + 3) M M1 := by
    rw [hM1]
    exact ((Fr.refl.wI ⟨rfl, by omega, by omega⟩ _).wI ⟨rfl, by omega, by omega⟩ _).wI ⟨rfl, by omega, by omega⟩ _
  have FS : Fr S56 M M1 := F.mono (fun a k q => by unfold S56; omega)
  have d1 := dR_o FS (fun a k q => by unfold S56 at q; omega)
  refine ⟨⟨by rw [F.int (by omega), h.1, List.length_append, List.length_append]; rfl, by rw [List.length_append, ← hL]; simp; omega, fun i e hi => ?_⟩, FS⟩
  rcases ap_cs hi with ⟨hil, hi⟩ | ⟨hie, he⟩
  · obtain ⟨b1, ⟨u, u1, u2, u3⟩, b3, b4⟩ := h.2.2 i e (by rw [List.getElem?_append_left hil]; exact hi)
    exact ⟨(F.int (by omega)).trans b1, ⟨u, u1, (F.int (by omega)).trans u2, (d1 u).trans u3⟩, (F.int (by omega)).trans b3, fun j hj => (F.int (by omega)).trans (b4 j hj)⟩
  · subst he
    obtain ⟨b1, ⟨u, u1, u2, u3⟩, b3, b4⟩ := h.2.2 i (rule, f, deep, g) (by rw [hie, List.getElem?_append_right (Nat.le_refl _), Nat.sub_self]; rfl)
    have hiL : i = L := by omega
    subst hiL
    refine ⟨(F.int (by omega)).trans b1, ⟨u, u1, (F.int (by omega)).trans u2, (d1 u).trans u3⟩, (F.int (by omega)).trans b3, j3 ?_ ?_ ?_⟩
    · rw [hM1]; simp [up2_if, frm3]
    · rw [hM1]; simp [up2_if, frm3]
    · rw [hM1]; simp [up2_if, frm3]
end RL8
/-- where the reference writes while it lays lines -/
def SLr (d a k : Nat) : Prop := (a = 89 ∧ (k = 43 ∨ k = 56)) ∨ (118 ≤ a ∧ a ≤ 121) ∨ (a = 122 ∧ d ≤ k)
section LF8
variable {M M0 M1 : Mem} {c n d p : Nat} {acc : List Ln} {l : List (Nat × Tm)} {tl : Nat → Fm} {cl : Nat → List Value → Mem → Option (Int32 × Mem)}
theorem SLr.z {d a k : Nat} (h : SLr d a k) : SLr 0 a k := by unfold SLr at h ⊢; omega
theorem WrkR.lr (h : WrkR M c l) (hF : Fr (SLr 0) M M1) : WrkR M1 c l := h.mv (hF.int (by unfold SLr; omega)) (hF.ints (by unfold SLr; omega)) (hF.ints (by unfold SLr; omega)) (fun i _ => dR_o hF (fun a k q => by unfold SLr at q; omega) i) (Nat.le_refl _)
theorem lf_eq (n : Nat) (x : Int32) (M : Mem) : f_X11_linesFrom (n + 1) 89 x M = lp (st_X11_linesFrom (r_X11_linesFrom n) (n + 1)) (0, [.ref 89, .int x], M) := rfl
theorem rl_o : ∀ o, o < 11 → 2 ≤ o → nI (o - 1) - 1 + 2 = nI o := by decide
theorem lf_210 (hR0 : WrkR M0 c l) (hty : TyR M0 c p (tl p)) (F : Fr (SLr 0) M0 M) (hW0 : Wd M0) (hN : LnR M c acc) (hl : acc.length < 410) (hp : p < l.length) (ho : 2 ≤ opl l p) (a b e : Int32) : ∃ M1, lp (st_X11_linesFrom cl (n + 1)) (210, [.ref 89, .int (nI d), .int (nI p), .int (nI (opl l p - 1)), .int a, .int b, .int e], M) = some (nI acc.length, M1) ∧ Fr S56 M M1 ∧ LnR M1 c (acc ++ [(opl l p, tl p, d, frm3 a b e)]) := by
  have hW := F.Wd hW0
  have hlen := hR0.2.1
  have hor := hR0.2.2.1.at_ hp
  obtain ⟨v, v1, v2, v3⟩ := hty
  have e13 : M.2.2.1 113 p = nI v := (F.int (by unfold SLr; omega)).trans v2
  have dv : dR M v = tl p := (dR_o F (fun a k q => by unfold SLr at q; omega) v).trans v3
  obtain ⟨M1, y1, F1, N1⟩ := rx_line0 (n := n) hW hN hl v1 (opl l p) d
  rw [dv] at N1
  rw [← rl_o (opl l p) (by omega) ho] at y1
  have hW1 := F1.Wd hW
  have hla := hN.2.1
  obtain ⟨N2, F2⟩ := N1.src a b e
  refine ⟨_, ?_, F1.trans F2, N2⟩
  refine (ge_X11_linesFrom_210 cl (n + 1) 89 (nI d) (nI p) (nI (opl l p - 1)) a b e M).trans ?_
  unfold T_X11_linesFrom_210
  have fA3 := fA_R hW (a := 113) (by omega) (s_113 hW) (show p < 400 by omega) (by omega)
  have m0 : 3 * nI acc.length = nI (3 * acc.length) := by rw [show (3 : Int32) = nI 3 from rfl, nI_mul]
  have m1 : nI (3 * acc.length) + 1 = nI (3 * acc.length + 1) := nI_1 _
  have m2 : nI (3 * acc.length) + 2 = nI (3 * acc.length + 2) := by rw [show (2 : Int32) = nI 2 from rfl, nI_add]
  have f0 : fA M1 120 1 (nI (3 * acc.length)) := fA_R hW1 (by omega) (s_120 hW1) (by omega) (by omega)
  have f1 : fA M1 120 1 (nI (3 * acc.length + 1)) := fA_R hW1 (by omega) (s_120 hW1) (by omega) (by omega)
  have f2 : fA M1 120 1 (nI (3 * acc.length + 2)) := fA_R hW1 (by omega) (s_120 hW1) (by omega) (by omega)
  simp (disch := omega) only [↓gd_pos (fO_R hW), ↓bnd_of (r_89_40 hW), ↓gd_pos fA3, nI_z, e13, ↓bnd2_of (show cal (n + 1) (fun zz => f_X11_line0 zz 89 (nI (opl l p - 1) - 1 + 2) (nI v) (nI d) M) = _ from y1), ↓gd_pos (fO_R hW1), ↓bnd_of (r_89_53 hW1), m0, m1, m2, ↓gd_pos f0, ↓gd_pos f1, ↓gd_pos f2]
theorem lf_name (hW : Wd M) (hR : WrkR M c l) (h43 : M.2.2.1 89 43 = nI p) (hp : p < l.length) (ho : opl l p = 1) {ln : Nat} (hln : (∃ k, k < 200 ∧ lbl l p = .index k ∧ M.2.2.1 122 k = nI ln) ∨ ∃ k, k < 6 ∧ lbl l p = .arg k ∧ ln = k) : lp (st_X11_linesFrom cl (n + 1)) (0, [.ref 89, .int (nI d)], M) = some (nI ln, wI M 89 43 (nI (p + 1))) := by
  have hl := hR.2.1
  have h5 := hR.kd hp
  have hag : M.2.2.1 106 p = nv (lbl l p) := (hR.ag hp).1 ho
  obtain ⟨g, hg⟩ : ∃ g, g = M.2.2.1 106 p := ⟨_, rfl⟩
  have hA5 := fA_R hW (a := 105) (by omega) (s_105 hW) (show p < 400 by omega) (by omega)
  have hA6 := fA_R hW (a := 106) (by omega) (s_106 hW) (show p < 400 by omega) (by omega)
  have hz : (nI (opl l p - 1) = (0 : Int32)) = True := eq_true (by rw [ho]; rfl)
  refine (ge_X11_linesFrom_0 cl (n + 1) 89 (nI d) M).trans ?_
  unfold T_X11_linesFrom_0
  rcases hln with ⟨k, k1, k2, k3⟩ | ⟨k, k1, k2, k3⟩
  · have hgk : g = nI k := by rw [hg, hag, k2]; rfl
    have hge : ((0 : Int32) ≤ g) = True := eq_true (by rw [hgk, show (0 : Int32) = nI 0 from rfl, nI_le_ (by omega) (by omega)]; omega)
    have fA2 : fA M 122 1 g := by rw [hgk]; exact fA_R hW (by omega) (s_122 hW) (by omega) (by omega)
    have hz2 : g.toNatClampNeg = k := by rw [hgk]; exact nI_z (by omega)
    simp (disch := omega) only [↓gd_pos (fO_R hW), ↓bnd_of (r_89_20 hW), h43, ↓gd_pos hA5, nI_z, up2_if, Nat.reduceEqDiff, false_and, if_false, h5, hz, ↓reduceIte, ↓bnd_of (r_89_21 hW), ↓gd_pos hA6, ← hg, hge, ↓bnd_of (r_89_55 hW), ↓gd_pos fA2, hz2, k3, nI_1]
  · have hgk : g = -1 - nI k := by rw [hg, hag, k2]; rfl
    have hge : ((0 : Int32) ≤ g) = False := eq_false (by rw [hgk]; exact Int32.not_le.mpr (hy_neg (by omega)))
    have hgi : -1 - g = nI ln := by rw [hgk, k3]; exact neg_n1 k
    obtain ⟨y, hy⟩ : ∃ y, y = -1 - g := ⟨_, rfl⟩
    rw [← hgi, ← hy]
    clear hgk hgi hag
    simp (disch := omega) only [↓gd_pos (fO_R hW), ↓bnd_of (r_89_20 hW), h43, ↓gd_pos hA5, nI_z, up2_if, Nat.reduceEqDiff, false_and, if_false, h5, hz, ↓reduceIte, ↓bnd_of (r_89_21 hW), ↓gd_pos hA6, ← hg, hge, ← hy, nI_1]
end LF8
