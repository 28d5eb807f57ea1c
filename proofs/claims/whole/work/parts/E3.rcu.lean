/-! CUT in the reference -/
section RCU
variable {c : Nat} {l : List (Nat × Tm)}
theorem rx_isHyp {M : Mem} (k : Nat) {n : Nat} (hn : n ≤ 6) (x : Int32) : (∀ j, j < n → x = nI j → f_X11_isIn k (Int32.toInt64 x) 0 (Int32.toInt64 (nI n - 1)) M = some (1, M)) ∧ ((∀ j, j < n → x ≠ nI j) → f_X11_isIn k (Int32.toInt64 x) 0 (Int32.toInt64 (nI n - 1)) M = some (0, M)) := by
  have hin := rx_isIn (M := M) k (Int32.toInt64 x) (Int32.toInt64 0) (Int32.toInt64 (nI n - 1))
  rw [fa_wide_le, fa_wide_le] at hin
  have l0 : (0 : Int64) = Int32.toInt64 0 := by decide
  rw [l0]
  constructor
  · intro j hj e
    obtain ⟨m, rfl⟩ : ∃ m, n = m + 1 := ⟨n - 1, by omega⟩
    refine hin.1 ⟨by rw [e]; exact nI_pos' (by omega), ?_⟩
    rw [e, show nI (m + 1) - 1 = nI m from pm_sub (m + 1), nI_le_ (by omega) (by omega)]
    omega
  · intro h
    refine hin.2 (fun q => ?_)
    obtain ⟨j, hj, e⟩ := nI_of (x := x) (Int32.not_lt.mpr q.1)
    have hjn : ¬ j < n := fun z => h j z e
    rw [e] at q
    cases n with
    | zero =>
      have := q.2
      rw [show nI 0 - 1 = -1 by decide, Int32.le_iff_toInt_le, nI_toInt (by omega), show (-1 : Int32).toInt = -1 from rfl] at this
      omega
    | succ m =>
      have := q.2
      rw [show nI (m + 1) - 1 = nI m from pm_sub (m + 1), nI_le_ (by omega) (by omega)] at this
      omega
noncomputable abbrev lpK1 (q j s3 s4 n i : Nat) (M : Mem) : Option (Int32 × Mem) := lp (st_X11_cut (q + 1)) (106, [.ref 89, .int (nI j), .int (nI s3), .int (nI s4), .int (nI n), .int (nI i)], M)
theorem name_no {M : Mem} {i j : Nat} (hR : WrkR M c l) (hi : i < l.length) (hj : j < 6) (hn : nmB (opl l i, lbl l i)) (z : opl l i = 1) (hne : ¬ lbl l i = .arg j) : (M.2.2.1 106 i = -1 - nI j) = False := eq_false (fun y => hne (by
  have hgn : M.2.2.1 106 i = nv (lbl l i) := (hR.ag hi).1 z
  rcases hn z with ⟨k, hk, hk2⟩ | ⟨k, hk, hk2⟩
  · have hk : lbl l i = .index k := hk
    rw [hk, y] at hgn
    have hgn : -1 - nI j = nI k := hgn
    have := congrArg Int32.toInt hgn
    rw [hy_toInt (by omega), nI_toInt (by omega)] at this
    omega
  · have hk : lbl l i = .arg k := hk
    rw [hk] at hgn ⊢
    rw [y] at hgn
    rw [hy_inj (by omega) (by omega) (show -1 - nI j = -1 - nI k from hgn)]))
theorem k1_one {M : Mem} (hW : Wd M) (hR : WrkR M c l) (q : Nat) {j s3 s4 n i z : Nat} (hs3 : s3 < 4) (h4 : M.2.2.1 104 s3 = nI (z + 1)) (hi : i < l.length) (hj : j < 6) (hn : nmB (opl l i, lbl l i)) : (opl l i = 1 ∧ lbl l i = .arg j → lpK1 q j s3 s4 n i M = lpK1 q j s3 s4 (n + z) (i + 1) M) ∧ (¬ (opl l i = 1 ∧ lbl l i = .arg j) → lpK1 q j s3 s4 n i M = lpK1 q j s3 s4 n (i + 1) M) := by
  have hl := hR.2.1
  have hor := hR.2.2.1.at_ hi
  have h5 := hR.kd hi
  have h24 := hR.1
  have hA5 := fA_R hW (a := 105) (by omega) (s_105 hW) (show i < 400 by omega) (by omega)
  have hA6 := fA_R hW (a := 106) (by omega) (s_106 hW) (show i < 400 by omega) (by omega)
  have hA4 := fA_R hW (a := 104) (by omega) (s_104 hW) hs3 (by omega)
  unfold lpK1
  constructor
  · intro ⟨q1, q2⟩
    have hgn : M.2.2.1 106 i = -1 - nI j := by
      have := (hR.ag hi).1 q1
      rw [show (opl l i, lbl l i).2 = .arg j from q2] at this
      exact this
    rw [q1] at h5
    refine (ge_X11_cut_106 (q + 1) 89 (nI j) (nI s3) (nI s4) (nI n) (nI i) M).trans ?_
    unfold T_X11_cut_106
    simp (disch := omega) only [↓gd_pos (fO_R hW), h24, nI_le_, eq_false (show ¬ l.length ≤ i by omega), ↓reduceIte, ↓bnd_of (r_89_20 hW), ↓gd_pos hA5, nI_z, h5, show (nI (1 - 1) = (0 : Int32)) = True from eq_true rfl, ↓bnd_of (r_89_21 hW), ↓gd_pos hA6, hgn, ↓bnd_of (r_89_19 hW), ↓gd_pos hA4, h4, show nI (z + 1) - 1 = nI z from pm_sub (z + 1), nI_add, nI_1]
  · intro hne
    refine (ge_X11_cut_106 (q + 1) 89 (nI j) (nI s3) (nI s4) (nI n) (nI i) M).trans ?_
    unfold T_X11_cut_106
    by_cases z : opl l i = 1
    · have hz : (nI (opl l i - 1) = (0 : Int32)) = True := eq_true (by rw [z]; rfl)
      have hgn := name_no hR hi hj hn z (fun y => hne ⟨z, y⟩)
      simp (disch := omega) only [↓gd_pos (fO_R hW), h24, nI_le_, eq_false (show ¬ l.length ≤ i by omega), ↓reduceIte, ↓bnd_of (r_89_20 hW), ↓gd_pos hA5, nI_z, h5, hz, ↓bnd_of (r_89_21 hW), ↓gd_pos hA6, hgn, Int32.add_zero, nI_1]
    · have hz : (nI (opl l i - 1) = (0 : Int32)) = False := eq_false (fun y => by have := (nI_eq (b := 0) (by omega) (by omega)).mp y; omega)
      simp (disch := omega) only [↓gd_pos (fO_R hW), h24, nI_le_, eq_false (show ¬ l.length ≤ i by omega), ↓reduceIte, ↓bnd_of (r_89_20 hW), ↓gd_pos hA5, nI_z, h5, hz, Int32.add_zero, nI_1]
theorem k1_tree {M : Mem} (hW : Wd M) (hR : WrkR M c l) (hnm : ∀ nd, nd ∈ l → nmB nd) (q : Nat) {j s3 s4 z : Nat} (hs3 : s3 < 4) (h4 : M.2.2.1 104 s3 = nI (z + 1)) (hj : j < 6) : ∀ t, isT t → ∀ {p n : Nat}, Sb l p t → lpK1 q j s3 s4 n p M = lpK1 q j s3 s4 (n + cnh j t * z) (p + sz t) M := by
  have at_ : ∀ {p : Nat} {nd : Nat × Tm}, l[p]? = some nd → nmB (opl l p, lbl l p) := fun h => hnm _ (List.mem_of_getElem? (opl_get (opl_of h).2.2))
  apply tm_ind
  · intro i p n hS
    obtain ⟨g1, g2, g3⟩ := opl_of hS.L
    rw [sz_L, (k1_one hW hR q hs3 h4 g3 hj (at_ hS.L)).2 (fun y => by have := y.2; rw [g2] at this; cases this)]
    show _ = lpK1 q j s3 s4 (n + 0 * z) (p + 1) M
    rw [Nat.zero_mul]
    rfl
  · intro i p n hS
    obtain ⟨g1, g2, g3⟩ := opl_of hS.H
    rw [sz_H]
    show _ = lpK1 q j s3 s4 (n + (if i = j then 1 else 0) * z) (p + 1) M
    have := k1_one hW hR q (s4 := s4) (n := n) hs3 h4 g3 hj (at_ hS.H)
    by_cases e : i = j
    · rw [if_pos e, Nat.one_mul]
      exact this.1 ⟨g1, by rw [g2, e]⟩
    · rw [if_neg e, Nat.zero_mul, Nat.add_zero]
      exact this.2 (fun y => e (by have := y.2; rw [g2] at this; cases this; rfl))
  · intro o f a ho ha ih p n hS
    obtain ⟨g1, g2, g3⟩ := opl_of hS.U.1
    have hrg := ho.rng
    rw [sz_U, (k1_one hW hR q hs3 h4 g3 hj (at_ hS.U.1)).2 (fun y => by have := y.1; rw [g1] at this; replace this : o = 1 := this; omega), ih hS.U.2, show p + (sz a + 1) = p + 1 + sz a by omega]
    rfl
  · intro o a b ho ha hb ia ib p n hS
    obtain ⟨g1, g2, g3⟩ := opl_of hS.B.1
    rw [sz_B, (k1_one hW hR q hs3 h4 g3 hj (at_ hS.B.1)).2 (fun y => by have := y.1; rw [g1] at this; replace this : o = 1 := this; omega), ia hS.B.2.1, ib hS.B.2.2, show p + (sz a + sz b + 1) = p + 1 + sz a + sz b by omega]
    show _ = lpK1 q j s3 s4 (n + (cnh j a + cnh j b) * z) _ M
    rw [Nat.add_mul, Nat.add_assoc n]
  · intro m a b hm ha hb im ia ib p n hS
    obtain ⟨g1, g2, g3⟩ := opl_of hS.C.1
    rw [sz_C, (k1_one hW hR q hs3 h4 g3 hj (at_ hS.C.1)).2 (fun y => by have := y.1; rw [g1] at this; replace this : 9 = 1 := this; omega), im hS.C.2.1, ia hS.C.2.2.1, ib hS.C.2.2.2, show p + (sz m + sz a + sz b + 1) = p + 1 + sz m + sz a + sz b by omega]
    show _ = lpK1 q j s3 s4 (n + (cnh j m + cnh j a + cnh j b) * z) _ M
    rw [Nat.add_mul, Nat.add_mul, show n + cnh j m * z + cnh j a * z + cnh j b * z = n + (cnh j m * z + cnh j a * z + cnh j b * z) by omega]
noncomputable abbrev lpK2 (q j s3 s4 i : Nat) (M : Mem) : Option (Int32 × Mem) := lp (st_X11_cut (q + 1)) (180, [.ref 89, .int (nI j), .int (nI s3), .int (nI s4), .int (nI i)], M)
/-- the slot whose proof is put -/
def SdR (M : Mem) (c s3 : Nat) (ls : List (Nat × Tm)) : Prop := M.2.2.1 104 s3 = nI ls.length ∧ ls.length ≤ 200 ∧ RowR M 102 103 (200 * s3) c ls
theorem SdR.nw {M M1 : Mem} {s3 : Nat} {ls : List (Nat × Tm)} (h : SdR M c s3 ls) (hF : Fr SNw M M1) : SdR M1 c s3 ls := ⟨(hF.int (by unfold SNw; omega)).trans h.1, h.2.1, h.2.2.mv (fun i _ => hF.int (by unfold SNw; omega)) (fun i _ => hF.int (by unfold SNw; omega)) (fun i _ => by rw [dR_nw hF]) (Nat.le_refl _)⟩
theorem k2_in {s3 : Nat} (hs3 : s3 < 4) {ls : List (Nat × Tm)} (hnm : ∀ nd, nd ∈ ls → nmB nd) (q : Nat) {j s4 i d : Nat} (hi : i < 400) (hd : d < 1000) : ∀ z u, u + z = ls.length → ∀ {M : Mem} {l1 : List (Nat × Tm)}, NwS M c l l1 → SdR M c s3 ls → M.2.2.1 114 i = nI d → l1.length + z ≤ 400 → ∃ M1, lp (st_X11_cut (q + 1)) (236, [.ref 89, .int (nI j), .int (nI s3), .int (nI s4), .int (nI i), .int (nI u)], M) = lpK2 q j s3 s4 (i + 1) M1 ∧ Fr SNw M M1 ∧ NwS M1 c l (l1 ++ ((ls.drop u).map (lfn 0 d))) := by
  intro z
  induction z with
  | zero =>
    intro u hu M l1 h hS h114 hr
    have hW := h.1
    have hl := hS.2.1
    have hA4 := fA_R hW (a := 104) (by omega) (s_104 hW) hs3 (by omega)
    refine ⟨M, ?_, Fr.refl, by rw [List.drop_eq_nil_of_le (by omega)]; simpa using h⟩
    unfold lpK2
    refine (ge_X11_cut_236 (q + 1) 89 (nI j) (nI s3) (nI s4) (nI i) (nI u) M).trans ?_
    unfold T_X11_cut_236
    simp (disch := omega) only [↓gd_pos (fO_R hW), ↓bnd_of (r_89_19 hW), ↓gd_pos hA4, nI_z, hS.1, nI_le_, eq_true (show ls.length ≤ u by omega), ↓reduceIte, nI_1]
  | succ z ih =>
    intro u hu M l1 h hS h114 hr
    have hW := h.1
    have hl := hS.2.1
    have hul : u < ls.length := by omega
    have hA4 := fA_R hW (a := 104) (by omega) (s_104 hW) hs3 (by omega)
    have hA2 := fA_R hW (a := 102) (by omega) (s_102 hW) (show 200 * s3 + u < 800 by omega) (by omega)
    have hA3 := fA_R hW (a := 103) (by omega) (s_103 hW) (show 200 * s3 + u < 800 by omega) (by omega)
    have hA14 := fA_R hW (a := 114) (by omega) (s_114 hW) hi (by omega)
    have e200 : (200 : Int32) * nI s3 + nI u = nI (200 * s3 + u) := by rw [show (200 : Int32) = nI 200 from rfl, nI_mul, nI_add]
    obtain ⟨b1, b2⟩ := hS.2.2.2 u _ (opl_get hul)
    have hor := hS.2.2.1.at_ hul
    have hn := hnm _ (List.mem_of_getElem? (opl_get hul))
    obtain ⟨g, hg⟩ : ∃ g, g = M.2.2.1 103 (200 * s3 + u) := ⟨_, rfl⟩
    rw [← hg] at b2
    have b1 : M.2.2.1 102 (200 * s3 + u) = nI (opl ls u - 1) := b1
    have st : ∀ x, (opl ls u = 1 → (g < 0 → x = 0) ∧ (¬ g < 0 → x = 1)) → (opl ls u ≠ 1 → x = 0) → lp (st_X11_cut (q + 1)) (236, [.ref 89, .int (nI j), .int (nI s3), .int (nI s4), .int (nI i), .int (nI u)], M) = lp (st_X11_cut (q + 1)) (288, [.ref 89, .int (nI j), .int (nI s3), .int (nI s4), .int (nI i), .int (nI u), .int g, .int x], M) := by
      intro x hx1 hx2
      refine (ge_X11_cut_236 (q + 1) 89 (nI j) (nI s3) (nI s4) (nI i) (nI u) M).trans ?_
      unfold T_X11_cut_236
      simp (disch := omega) only [↓gd_pos (fO_R hW), ↓bnd_of (r_89_19 hW), ↓gd_pos hA4, nI_z, hS.1, nI_le_, eq_false (show ¬ ls.length ≤ u by omega), ↓reduceIte, ↓bnd_of (r_89_18 hW), e200, ↓gd_pos hA3, ↓bnd_of (r_89_17 hW), ↓gd_pos hA2, b1, ← hg]
      by_cases zz : opl ls u = 1
      · rw [if_pos (by rw [zz]; rfl)]
        by_cases r : g < 0
        · rw [if_pos r, (hx1 zz).1 r]
        · rw [if_neg r, (hx1 zz).2 r]
      · rw [if_neg (show ¬ nI (opl ls u - 1) = 0 from fun y => by have := (nI_eq (b := 0) (by omega) (by omega)).mp y; omega), hx2 zz]
    have fin : ∀ {x g1 : Int32} {lb1 : Tm}, ((x = 0 ∧ g1 = g) ∨ (x = 1 ∧ g1 = g + nI d)) → agR M c (opl ls u, lb1) g1 → lp (st_X11_cut (q + 1)) (236, [.ref 89, .int (nI j), .int (nI s3), .int (nI s4), .int (nI i), .int (nI u)], M) = lp (st_X11_cut (q + 1)) (288, [.ref 89, .int (nI j), .int (nI s3), .int (nI s4), .int (nI i), .int (nI u), .int g, .int x], M) → lfn 0 d (opl ls u, lbl ls u) = (opl ls u, lb1) → ∃ M1, lp (st_X11_cut (q + 1)) (236, [.ref 89, .int (nI j), .int (nI s3), .int (nI s4), .int (nI i), .int (nI u)], M) = lpK2 q j s3 s4 (i + 1) M1 ∧ Fr SNw M M1 ∧ NwS M1 c l (l1 ++ ((ls.drop u).map (lfn 0 d))) := by
      intro x g1 lb1 hx hag e0 elf
      obtain ⟨M1, y1, F1, N1⟩ := rx_writes h q (lb := lb1) (g := g1) hor.1 hor.2 hag (by omega)
      obtain ⟨M2, y2, F2, N2⟩ := ih (u + 1) (by omega) N1 (hS.nw F1) ((F1.int (by unfold SNw; omega)).trans h114) (by simp; omega)
      refine ⟨M2, ?_, F1.trans F2, ?_⟩
      · rw [e0, ← y2]
        refine (ge_X11_cut_288 (q + 1) 89 (nI j) (nI s3) (nI s4) (nI i) (nI u) g x M).trans ?_
        unfold T_X11_cut_288
        rcases hx with ⟨rfl, rfl⟩ | ⟨rfl, rfl⟩
        · simp (disch := omega) only [↓gd_pos (fO_R hW), ↓bnd_of (r_89_17 hW), e200, ↓gd_pos hA2, ↓reduceIte, nI_z, b1, ↓bnd2_of (show cal (q + 1) (fun zz => f_X11_writes zz 89 (nI (opl ls u - 1)) g1 M) = _ from y1), nI_1]
        · simp (disch := omega) only [↓gd_pos (fO_R hW), ↓bnd_of (r_89_17 hW), e200, ↓gd_pos hA2, ↓reduceIte, show ((1 : Int32) = 0) = False from eq_false (by decide), ↓bnd_of (r_89_41 hW), ↓gd_pos hA14, nI_z, h114, b1, ↓bnd2_of (show cal (q + 1) (fun zz => f_X11_writes zz 89 (nI (opl ls u - 1)) (g + nI d) M) = _ from y1), nI_1]
      · rw [drop_c hul, List.map_cons, elf]
        rw [List.append_assoc, List.singleton_append] at N2
        exact N2
    by_cases zz : opl ls u = 1
    · have ntf : ∀ f : Tm, ¬ tf (opl ls u, f).1 := fun f y => by rw [show (opl ls u, f).1 = 1 from zz] at y; unfold tf at y; omega
      have hgn : g = nv (lbl ls u) := b2.1 zz
      rcases hn zz with ⟨k, hk, hk2⟩ | ⟨k, hk, hk2⟩
      · have hk : lbl ls u = .index k := hk
        rw [hk] at hgn
        have hgk : g = nI k := hgn
        have hng : ¬ g < 0 := by rw [hgk, nI_lt0 (by omega)]; exact id
        refine fin (x := 1) (g1 := g + nI d) (lb1 := .index (k + d)) (Or.inr ⟨rfl, rfl⟩) ⟨fun _ => by rw [hgk, nI_add]; rfl, fun y => (ntf _ y).elim, fun y => absurd zz y⟩ (st 1 (fun _ => ⟨fun y => absurd y hng, fun _ => rfl⟩) (fun y => absurd zz y)) ?_
        rw [hk, zz, lfn_1]
        show (1, if 0 ≤ k then Jvm.Term.index (k + d) else .index k) = _
        rw [if_pos (Nat.zero_le _)]
      · have hk : lbl ls u = .arg k := hk
        rw [hk] at hgn
        have hgk : g = -1 - nI k := hgn
        have hng : g < 0 := by rw [hgk]; exact hy_neg (by omega)
        refine fin (x := 0) (g1 := g) (lb1 := .arg k) (Or.inl ⟨rfl, rfl⟩) ⟨fun _ => hgn, fun y => (ntf _ y).elim, fun y => absurd zz y⟩ (st 0 (fun _ => ⟨fun _ => rfl, fun y => absurd hng y⟩) (fun _ => rfl)) ?_
        rw [hk, zz]
        rfl
    · exact fin (x := 0) (g1 := g) (lb1 := lbl ls u) (Or.inl ⟨rfl, rfl⟩) b2 (st 0 (fun y => absurd y zz) (fun _ => rfl)) (lfn_n zz)
theorem k2_A {M : Mem} {l1 : List (Nat × Tm)} (h : NwS M c l l1) (q : Nat) {j s3 s4 i : Nat} (hi : i < l.length) (hj : j < 6) (hn : nmB (opl l i, lbl l i)) (hne : ¬ (opl l i = 1 ∧ lbl l i = .arg j)) (hr : l1.length < 400) : ∃ M1, lpK2 q j s3 s4 i M = lpK2 q j s3 s4 (i + 1) M1 ∧ Fr SNw M M1 ∧ NwS M1 c l (l1 ++ [(opl l i, lbl l i)]) := by
  have hW := h.1
  have hR := h.2.1
  have hl := hR.2.1
  have hor := hR.2.2.1.at_ hi
  have h5 := hR.kd hi
  have h24 := hR.1
  have hA5 := fA_R hW (a := 105) (by omega) (s_105 hW) (show i < 400 by omega) (by omega)
  have hA6 := fA_R hW (a := 106) (by omega) (s_106 hW) (show i < 400 by omega) (by omega)
  obtain ⟨M1, y1, F1, N1⟩ := rx_writes h q (lb := lbl l i) (g := M.2.2.1 106 i) hor.1 hor.2 (hR.ag hi) hr
  refine ⟨M1, ?_, F1, N1⟩
  have e212 : lp (st_X11_cut (q + 1)) (212, [.ref 89, .int (nI j), .int (nI s3), .int (nI s4), .int (nI i)], M) = lpK2 q j s3 s4 (i + 1) M1 := by
    unfold lpK2
    refine (ge_X11_cut_212 (q + 1) 89 (nI j) (nI s3) (nI s4) (nI i) M).trans ?_
    unfold T_X11_cut_212
    simp (disch := omega) only [↓gd_pos (fO_R hW), ↓bnd_of (r_89_20 hW), ↓gd_pos hA5, nI_z, h5, ↓bnd_of (r_89_21 hW), ↓gd_pos hA6, ↓bnd2_of (show cal (q + 1) (fun zz => f_X11_writes zz 89 (nI (opl l i - 1)) (M.2.2.1 106 i) M) = _ from y1), nI_1]
  rw [← e212]
  unfold lpK2
  refine (ge_X11_cut_180 (q + 1) 89 (nI j) (nI s3) (nI s4) (nI i) M).trans ?_
  unfold T_X11_cut_180
  by_cases z : opl l i = 1
  · have hz : (nI (opl l i - 1) = (0 : Int32)) = True := eq_true (by rw [z]; rfl)
    have hgn := name_no hR hi hj hn z (fun y => hne ⟨z, y⟩)
    simp (disch := omega) only [↓gd_pos (fO_R hW), h24, nI_le_, eq_false (show ¬ l.length ≤ i by omega), ↓reduceIte, ↓bnd_of (r_89_20 hW), ↓gd_pos hA5, nI_z, h5, hz, ↓bnd_of (r_89_21 hW), ↓gd_pos hA6, hgn]
  · have hz : (nI (opl l i - 1) = (0 : Int32)) = False := eq_false (fun y => by have := (nI_eq (b := 0) (by omega) (by omega)).mp y; omega)
    simp (disch := omega) only [↓gd_pos (fO_R hW), h24, nI_le_, eq_false (show ¬ l.length ≤ i by omega), ↓reduceIte, ↓bnd_of (r_89_20 hW), ↓gd_pos hA5, nI_z, h5, hz]
theorem k2_B {M : Mem} {l1 ls : List (Nat × Tm)} (h : NwS M c l l1) {s3 : Nat} (hs3 : s3 < 4) (hS : SdR M c s3 ls) (hnm : ∀ nd, nd ∈ ls → nmB nd) (q : Nat) {j s4 i d : Nat} (hi : i < l.length) (hd : d < 1000) (h114 : M.2.2.1 114 i = nI d) (hop : opl l i = 1) (hlb : lbl l i = .arg j) (hr : l1.length + ls.length ≤ 400) : ∃ M1, lpK2 q j s3 s4 i M = lpK2 q j s3 s4 (i + 1) M1 ∧ Fr SNw M M1 ∧ NwS M1 c l (l1 ++ ls.map (lfn 0 d)) := by
  have hW := h.1
  have hR := h.2.1
  have hl := hR.2.1
  have h5 := hR.kd hi
  rw [hop] at h5
  have h24 := hR.1
  have hA5 := fA_R hW (a := 105) (by omega) (s_105 hW) (show i < 400 by omega) (by omega)
  have hA6 := fA_R hW (a := 106) (by omega) (s_106 hW) (show i < 400 by omega) (by omega)
  have hgn : M.2.2.1 106 i = -1 - nI j := by
    have := (hR.ag hi).1 hop
    rw [show (opl l i, lbl l i).2 = .arg j from hlb] at this
    exact this
  obtain ⟨M1, y1, F1, N1⟩ := k2_in hs3 hnm q (j := j) (s4 := s4) (i := i) (by omega) hd ls.length 0 (by omega) h hS h114 hr
  rw [List.drop_zero] at N1
  refine ⟨M1, ?_, F1, N1⟩
  rw [← y1]
  unfold lpK2
  refine (ge_X11_cut_180 (q + 1) 89 (nI j) (nI s3) (nI s4) (nI i) M).trans ?_
  unfold T_X11_cut_180
  simp (disch := omega) only [↓gd_pos (fO_R hW), h24, nI_le_, eq_false (show ¬ l.length ≤ i by omega), ↓reduceIte, ↓bnd_of (r_89_20 hW), ↓gd_pos hA5, nI_z, h5, show (nI (1 - 1) = (0 : Int32)) = True from eq_true rfl, ↓bnd_of (r_89_21 hW), ↓gd_pos hA6, hgn]
  rfl
theorem k2_tree {s : Tm} (hs0 : isT s) {s3 : Nat} (hs3 : s3 < 4) (hnm : ∀ nd, nd ∈ rws s → nmB nd) (hnl : ∀ nd, nd ∈ l → nmB nd) (q : Nat) {j s4 : Nat} (hj : j < 6) : ∀ t, isT t → ∀ {p d : Nat} {M : Mem} {l1 : List (Nat × Tm)}, Sb l p t → DpR M t p d → d + sz t < 1000 → NwS M c l l1 → SdR M c s3 (rws s) → l1.length + sz (hbs j s t d) ≤ 400 → ∃ M1, lpK2 q j s3 s4 p M = lpK2 q j s3 s4 (p + sz t) M1 ∧ Fr SNw M M1 ∧ NwS M1 c l (l1 ++ rws (hbs j s t d)) := by
  have at_ : ∀ {p : Nat} {nd : Nat × Tm}, l[p]? = some nd → nmB (opl l p, lbl l p) := fun h => hnl _ (List.mem_of_getElem? (opl_get (opl_of h).2.2))
  have dp : ∀ {M M1 : Mem}, Fr SNw M M1 → ∀ t, isT t → ∀ {p d : Nat}, DpR M t p d → DpR M1 t p d := fun F t ht _ _ g => g.congr t ht (fun i _ _ => F.int (by unfold SNw; omega))
  apply tm_ind
  · intro k p d M l1 hS hL hd4 h hSd hr
    obtain ⟨g1, g2, g3⟩ := opl_of hS.L
    rw [hbs_L, sz_L] at hr
    rw [sz_L, hbs_L]
    have := k2_A h q (j := j) (s3 := s3) (s4 := s4) g3 hj (at_ hS.L) (fun y => by have := y.2; rw [g2] at this; cases this) (by omega)
    rw [g1, g2] at this
    exact this
  · intro k p d M l1 hS hL hd4 h hSd hr
    obtain ⟨g1, g2, g3⟩ := opl_of hS.H
    rw [sz_H] at hd4 ⊢
    rw [hbs_H] at hr ⊢
    by_cases e : k = j
    · rw [if_pos e] at hr ⊢
      rw [sz_lft s hs0] at hr
      rw [rws_lft s hs0]
      exact k2_B h hs3 hSd hnm q g3 (by omega) hL g1 (by rw [g2, e]) (by rw [rws_len]; exact hr)
    · rw [if_neg e] at hr ⊢
      have := k2_A h q (j := j) (s3 := s3) (s4 := s4) g3 hj (at_ hS.H) (fun y => e (by have := y.2; rw [g2] at this; cases this; rfl)) (by rw [sz_H] at hr; omega)
      rw [g1, g2] at this
      exact this
  · intro o f a ho ha ih p d M l1 hS hL hd4 h hSd hr
    obtain ⟨hS1, hS2⟩ := hS.U
    obtain ⟨g1, g2, g3⟩ := opl_of hS1
    have hrg := ho.rng
    have h1o : opl l p ≠ 1 := by rw [g1]; show o ≠ 1; omega
    rw [sz_U] at hd4 ⊢
    rw [hbs_U, sz_U] at hr
    rw [hbs_U, rws_U]
    obtain ⟨M1, e1, F1, N1⟩ := k2_A h q (j := j) (s3 := s3) (s4 := s4) g3 hj (at_ hS1) (fun y => h1o y.1) (by omega)
    rw [g1, g2] at N1
    have am := amN_le o 0
    obtain ⟨M2, e2, F2, N2⟩ := ih (d := d + amN o 0) hS2 (dp F1 a ha hL.2) (by omega) N1 (hSd.nw F1) (by simp; omega)
    refine ⟨M2, ?_, F1.trans F2, ?_⟩
    · rw [show p + (sz a + 1) = p + 1 + sz a by omega]
      exact e1.trans e2
    · rw [List.append_assoc, List.singleton_append] at N2
      exact N2
  · intro o a b ho ha hb ia ib p d M l1 hS hL hd4 h hSd hr
    obtain ⟨hS1, hS2, hS3⟩ := hS.B
    obtain ⟨g1, g2, g3⟩ := opl_of hS1
    have h1o : opl l p ≠ 1 := by rw [g1]; show o ≠ 1; omega
    rw [sz_B] at hd4 ⊢
    rw [hbs_B, sz_B] at hr
    rw [hbs_B, rws_B]
    obtain ⟨M1, e1, F1, N1⟩ := k2_A h q (j := j) (s3 := s3) (s4 := s4) g3 hj (at_ hS1) (fun y => h1o y.1) (by omega)
    rw [g1, g2] at N1
    obtain ⟨M2, e2, F2, N2⟩ := ia hS2 (dp F1 a ha hL.2.1) (by omega) N1 (hSd.nw F1) (by simp; omega)
    obtain ⟨M3, e3, F3, N3⟩ := ib hS3 (dp F2 b hb (dp F1 b hb hL.2.2)) (by omega) N2 ((hSd.nw F1).nw F2) (by simp only [List.length_append, List.length_cons, List.length_nil, rws_len]; omega)
    refine ⟨M3, ?_, (F1.trans F2).trans F3, ?_⟩
    · rw [show p + (sz a + sz b + 1) = p + 1 + sz a + sz b by omega]
      exact e1.trans (e2.trans e3)
    · simpa using N3
  · intro x a b hx ha hb ix ia ib p d M l1 hS hL hd4 h hSd hr
    obtain ⟨hS1, hS2, hS3, hS4⟩ := hS.C
    obtain ⟨g1, g2, g3⟩ := opl_of hS1
    have h1o : opl l p ≠ 1 := by rw [g1]; show 9 ≠ 1; omega
    rw [sz_C] at hd4 ⊢
    rw [hbs_C, sz_C] at hr
    rw [hbs_C, rws_C]
    have zx := sz_pos x hx
    obtain ⟨M1, e1, F1, N1⟩ := k2_A h q (j := j) (s3 := s3) (s4 := s4) g3 hj (at_ hS1) (fun y => h1o y.1) (by omega)
    rw [g1, g2] at N1
    obtain ⟨M2, e2, F2, N2⟩ := ix hS2 (dp F1 x hx hL.2.1) (by omega) N1 (hSd.nw F1) (by simp; omega)
    obtain ⟨M3, e3, F3, N3⟩ := ia hS3 (dp F2 a ha (dp F1 a ha hL.2.2.1)) (by omega) N2 ((hSd.nw F1).nw F2) (by simp only [List.length_append, List.length_cons, List.length_nil, rws_len]; omega)
    obtain ⟨M4, e4, F4, N4⟩ := ib hS4 (dp F3 b hb (dp F2 b hb (dp F1 b hb hL.2.2.2))) (by omega) N3 (((hSd.nw F1).nw F2).nw F3) (by simp only [List.length_append, List.length_cons, List.length_nil, rws_len]; omega)
    refine ⟨M4, ?_, ((F1.trans F2).trans F3).trans F4, ?_⟩
    · rw [show p + (sz x + sz a + sz b + 1) = p + 1 + sz x + sz a + sz b by omega]
      exact e1.trans (e2.trans (e3.trans e4))
    · simpa using N4
end RCU
