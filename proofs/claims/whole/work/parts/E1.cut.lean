/-! CUT in the class -/
section CUT
variable {c fr sd : Nat} {lf ls : List (Nat × Tm)}
def RpS (M : Mem) (c fr sd : Nat) (lf ls l : List (Nat × Tm)) : Prop := CpS M c sd 37 ls l ∧ TOb fr ∧ fr ≠ 37 ∧ RowC M fr c lf
theorem RpS.add {M M1 : Mem} {l l1 : List (Nat × Tm)} (h : RpS M c fr sd lf ls l) (hF : Fr (SO 37) M M1) (hG : TgC M1 37 c l1) : RpS M1 c fr sd lf ls l1 := by
  obtain ⟨h1, h2, h3, h4⟩ := h
  have sep := fun a k (q : SO 37 a k) => SO.sep h1.2.2.1 h2 (Ne.symm h3) q
  exact ⟨h1.add hF hG, h2, h3, h4.mv (hF.int (fun x => (sep _ _ x).1 rfl)) (hF.ints (fun k x => (sep _ _ x).2.1 rfl)) (hF.ints (fun k x => (sep _ _ x).2.2 rfl)) (fun i _ => by rw [dC_fq hF.q (fun k q => by unfold SO at q; omega) (fun k q => by unfold SO at q; omega) (fun k q => by unfold SO at q; omega)]) (Nat.le_refl _)⟩
noncomputable abbrev lpRp (m fr sd j i : Nat) (M : Mem) : Option (Int32 × Mem) := lp (st_X7_replace (m + 2)) (22, [.ref 53, .ref fr, .int (nI j), .ref sd, .ref 37, .int (nI i)], M)
theorem rp_over {M : Mem} {l : List (Nat × Tm)} (h : RpS M c fr sd lf ls l) (hv : M.2.2.1 37 3 = 1) (m : Nat) {j i : Nat} (hi : i ≤ lf.length) : lpRp m fr sd j i M = some (0, M) := by
  obtain ⟨⟨hW, hs, ht, hne, hR, h2, -⟩, hf, hf2, hRf⟩ := h
  have hl := hRf.2.1
  refine (ge_X7_replace_22 (m + 2) 53 fr (nI j) sd 37 (nI i) M).trans ?_
  unfold T_X7_replace_22
  by_cases q : lf.length ≤ i
  · simp (disch := omega) only [↓gd_pos (fO_T hW hf), hRf.1, nI_le_, eq_true q, ↓reduceIte, ↓gd_pos (fO_T hW ht), hv, show ((1 : Int32) = 0) = False from eq_false (by decide)]
  · simp (disch := omega) only [↓gd_pos (fO_T hW hf), hRf.1, nI_le_, eq_false q, ↓reduceIte, ↓gd_pos (fO_T hW ht), hv, show ((1 : Int32) = 0) = False from eq_false (by decide)]
theorem hy_inj {a b : Nat} (ha : a < 1000) (hb : b < 1000) (h : -1 - nI a = -1 - nI b) : a = b := by
  have := congrArg Int32.toInt h
  rw [hy_toInt (by omega), hy_toInt (by omega)] at this
  omega
theorem rp_A {M : Mem} {l : List (Nat × Tm)} (h : RpS M c fr sd lf ls l) (m : Nat) {j i : Nat} (hi : i < lf.length) (hj : j < 6) (hn : nmB (opl lf i, lbl lf i)) (hne : ¬ (opl lf i = 1 ∧ lbl lf i = .arg j)) : ∃ M1, lpRp m fr sd j i M = lpRp m fr sd j (i + 1) M1 ∧ Fr (SO 37) M M1 ∧ TgC M1 37 c (l ++ [(opl lf i, lbl lf i)]) := by
  have h0 := h
  obtain ⟨⟨hW, hs, ht, hst, hR, h2, hG⟩, hf, hf2, hRf⟩ := h
  have hl := hRf.2.1
  rcases hG with ⟨hv, hRt⟩ | ⟨hv, g2, g3⟩
  · obtain ⟨q, hq⟩ : ∃ q, q = m + 1 := ⟨_, rfl⟩
    have ea := c_argAt hW hf hRf q hi
    have eo := c_opAt hW hf hRf q hi
    have hag := hRf.ag hi
    have hor := hRf.2.2.1.at_ hi
    have hnn : ¬ (opl lf i = 1 ∧ M.2.2.1 (fr + 2) i = -1 - nI j) := fun z => hne ⟨z.1, by
      have hgn : M.2.2.1 (fr + 2) i = nv (lbl lf i) := hag.1 z.1
      rcases hn z.1 with ⟨k, hk, hk2⟩ | ⟨k, hk, hk2⟩
      · have hk : lbl lf i = .index k := hk
        rw [hk, z.2] at hgn
        have hgn : -1 - nI j = nI k := hgn
        have := congrArg Int32.toInt hgn
        rw [hy_toInt (by omega), nI_toInt (by omega)] at this
        omega
      · have hk : lbl lf i = .arg k := hk
        rw [hk] at hgn ⊢
        rw [z.2] at hgn
        rw [hy_inj (by omega) (by omega) (show -1 - nI j = -1 - nI k from hgn)]⟩
    have ein := (c_isName hW hf hRf m hi (-1 - nI j)).2 hnn
    rw [show m + 1 = q by omega] at ein
    obtain ⟨M1, e1, F1, G1⟩ := c_add hW ht (Or.inl ⟨hv, hRt⟩) q hor.1 hor.2 hag
    refine ⟨M1, ?_, F1, G1⟩
    unfold lpRp
    rw [show m + 2 = q + 1 by omega]
    refine (ge_X7_replace_22 (q + 1) 53 fr (nI j) sd 37 (nI i) M).trans ?_
    unfold T_X7_replace_22
    simp (disch := omega) only [↓gd_pos (fO_T hW hf), hRf.1, nI_le_, eq_false (show ¬ lf.length ≤ i by omega), ↓reduceIte, ↓gd_pos (fO_T hW ht), hv, ↓bnd2_of (show cal (q + 1) (fun zz => f_X9_isName zz fr (nI i) (-1 - nI j) M) = _ from ein), ↓bnd2_of (show cal (q + 1) (fun zz => f_X9_opAt zz fr (nI i) M) = _ from eo), ↓bnd2_of (show cal (q + 1) (fun zz => f_X9_argAt zz fr (nI i) M) = _ from ea), ↓bnd2_of (show cal (q + 1) (fun zz => f_X9_add zz 37 (nI (opl lf i)) (M.2.2.1 (fr + 2) i) M) = _ from e1), nI_1]
  · refine ⟨M, ?_, Fr.refl, Or.inr ⟨hv, g2, by rw [List.length_append]; omega⟩⟩
    rw [rp_over h0 hv m (by omega), rp_over h0 hv m (by omega)]
theorem rp_B {M : Mem} {l : List (Nat × Tm)} (h : RpS M c fr sd lf ls l) (hnm : ∀ nd, nd ∈ ls → nmB nd) (m : Nat) {j i d : Nat} (hi : i < lf.length) (hd4 : d < 1000) (h42 : M.2.2.1 42 i = nI d) (hop : opl lf i = 1) (hlb : lbl lf i = .arg j) : ∃ M1, lpRp m fr sd j i M = lpRp m fr sd j (i + 1) M1 ∧ Fr (SO 37) M M1 ∧ TgC M1 37 c (l ++ ls.map (lfn 0 d)) := by
  have h0 := h
  obtain ⟨⟨hW, hs, ht, hst, hR, h2, hG⟩, hf, hf2, hRf⟩ := h
  have hl := hRf.2.1
  have hl2 := hR.2.1
  rcases hG with ⟨hv, hRt⟩ | ⟨hv, g2, g3⟩
  · obtain ⟨q, hq⟩ : ∃ q, q = m + 1 := ⟨_, rfl⟩
    have hgn : M.2.2.1 (fr + 2) i = -1 - nI j := by
      have := (hRf.ag hi).1 hop
      rw [show (opl lf i, lbl lf i).2 = .arg j from hlb] at this
      exact this
    have ein := (c_isName hW hf hRf m hi (-1 - nI j)).1 hop hgn
    rw [show m + 1 = q by omega] at ein
    have ed := c_depthOf hW q (i := i) (by omega)
    rw [h42] at ed
    obtain ⟨M1, e1, F1, G1⟩ := c_copyDeeper hnm m (i := 0) (e := ls.length) (lv := 0) (w := d) (Nat.le_refl _) (Nat.zero_le _) (by omega) hd4 h0.1
    rw [show m + 1 = q by omega] at e1
    rw [List.drop_zero, Nat.sub_zero, List.take_length] at G1
    refine ⟨M1, ?_, F1, G1⟩
    unfold lpRp
    rw [show m + 2 = q + 1 by omega]
    refine (ge_X7_replace_22 (q + 1) 53 fr (nI j) sd 37 (nI i) M).trans ?_
    unfold T_X7_replace_22
    have e1' : f_X7_copyDeeper q 53 sd 0 (nI ls.length) 0 (nI d) M = some ((), M1) := e1
    simp (disch := omega) only [↓gd_pos (fO_T hW hf), hRf.1, nI_le_, eq_false (show ¬ lf.length ≤ i by omega), ↓reduceIte, ↓gd_pos (fO_T hW ht), hv, ↓bnd2_of (show cal (q + 1) (fun zz => f_X9_isName zz fr (nI i) (-1 - nI j) M) = _ from ein), show ((1 : Int32) = 0) = False from eq_false (by decide), ↓gd_pos (fO_T hW hs), ↓gd_pos (fO_53 hW), ↓bnd_of (r_53_0 hW), ↓gd_pos (fO_40 hW), ↓bnd2_of (show cal (q + 1) (fun zz => f_X3_depthOf zz 40 (nI i) M) = _ from ed), hR.1, ↓bnd2_of (show cal (q + 1) (fun zz => f_X7_copyDeeper zz 53 sd 0 (nI ls.length) 0 (nI d) M) = _ from e1'), nI_1]
  · refine ⟨M, ?_, Fr.refl, Or.inr ⟨hv, g2, by rw [List.length_append]; omega⟩⟩
    rw [rp_over h0 hv m (by omega), rp_over h0 hv m (by omega)]
theorem rp_tree {s : Tm} (hs0 : isT s) (hls : ls = rws s) (hnm : ∀ nd, nd ∈ ls → nmB nd) (hnf : ∀ nd, nd ∈ lf → nmB nd) (m : Nat) {j : Nat} (hj : j < 6) : ∀ t, isT t → ∀ {p d : Nat} {M : Mem} {l : List (Nat × Tm)} {pa : Int32} {r n : Nat} {A : Nat → Nat}, Sb lf p t → Ly M t p d pa r n A → d + sz t < 1000 → scp t d → RpS M c fr sd lf ls l → ∃ M1, lpRp m fr sd j p M = lpRp m fr sd j (p + sz t) M1 ∧ Fr (SO 37) M M1 ∧ TgC M1 37 c (l ++ rws (hbs j s t d)) := by
  have h37 : TOb 37 := by unfold TOb; omega
  have at_ : ∀ {p : Nat} {nd : Nat × Tm}, lf[p]? = some nd → nmB (opl lf p, lbl lf p) := fun h => hnf _ (List.mem_of_getElem? (opl_get (opl_of h).2.2))
  have ly : ∀ {M M1 : Mem}, Fr (SO 37) M M1 → ∀ t, isT t → ∀ {p d : Nat} {pa : Int32} {r n : Nat} {A : Nat → Nat}, Ly M t p d pa r n A → Ly M1 t p d pa r n A := fun F t ht _ _ _ _ _ _ g => g.congr t ht (fun a i h1 h2 _ _ => F.int (fun q => by have := SO.n42 h37 q; omega))
  apply tm_ind
  · intro k p d M l pa r n A hS hL hd4 hsc h
    obtain ⟨g1, g2, g3⟩ := opl_of hS.L
    rw [sz_L, hbs_L]
    have := rp_A h m (j := j) g3 hj (at_ hS.L) (fun q => by have := q.2; rw [g2] at this; cases this)
    rw [g1, g2] at this
    exact this
  · intro k p d M l pa r n A hS hL hd4 hsc h
    obtain ⟨g1, g2, g3⟩ := opl_of hS.H
    rw [sz_H] at hd4 ⊢
    rw [hbs_H]
    by_cases e : k = j
    · rw [if_pos e, rws_lft s hs0, ← hls]
      exact rp_B h hnm m g3 (by omega) (hL.at_ (tH k) trivial).1 g1 (by rw [g2, e])
    · rw [if_neg e]
      have := rp_A h m (j := j) g3 hj (at_ hS.H) (fun q => e (by have := q.2; rw [g2] at this; cases this; rfl))
      rw [g1, g2] at this
      exact this
  · intro o f a ho ha ih p d M l pa r n A hS hL hd4 hsc h
    obtain ⟨hS1, hS2⟩ := hS.U
    obtain ⟨g1, g2, g3⟩ := opl_of hS1
    have hr := ho.rng
    have h1o : opl lf p ≠ 1 := by rw [g1]; show o ≠ 1; omega
    rw [sz_U] at hd4 ⊢
    rw [hbs_U, rws_U]
    obtain ⟨M1, e1, F1, G1⟩ := rp_A h m (j := j) g3 hj (at_ hS1) (fun q => h1o q.1)
    rw [g1, g2] at G1
    have am := amN_le o 0
    obtain ⟨M2, e2, F2, G2⟩ := ih (d := d + amN o 0) hS2 (ly F1 a ha hL.2) (by omega) hsc (h.add F1 G1)
    refine ⟨M2, ?_, F1.trans F2, ?_⟩
    · rw [show p + (sz a + 1) = p + 1 + sz a by omega]
      exact e1.trans e2
    · rw [List.append_assoc, List.singleton_append] at G2
      exact G2
  · intro o a b ho ha hb ia ib p d M l pa r n A hS hL hd4 hsc h
    obtain ⟨hS1, hS2, hS3⟩ := hS.B
    obtain ⟨g1, g2, g3⟩ := opl_of hS1
    have h1o : opl lf p ≠ 1 := by rw [g1]; show o ≠ 1; omega
    rw [sz_B] at hd4 ⊢
    rw [hbs_B, rws_B]
    obtain ⟨M1, e1, F1, G1⟩ := rp_A h m (j := j) g3 hj (at_ hS1) (fun q => h1o q.1)
    rw [g1, g2] at G1
    have k1 := h.add F1 G1
    obtain ⟨M2, e2, F2, G2⟩ := ia hS2 (ly F1 a ha hL.2.1) (by omega) hsc.1 k1
    have k2 := k1.add F2 G2
    obtain ⟨M3, e3, F3, G3⟩ := ib hS3 (ly F2 b hb (ly F1 b hb hL.2.2)) (by omega) hsc.2 k2
    refine ⟨M3, ?_, (F1.trans F2).trans F3, ?_⟩
    · rw [show p + (sz a + sz b + 1) = p + 1 + sz a + sz b by omega]
      exact e1.trans (e2.trans e3)
    · simpa using G3
  · intro x a b hx ha hb ix ia ib p d M l pa r n A hS hL hd4 hsc h
    obtain ⟨hS1, hS2, hS3, hS4⟩ := hS.C
    obtain ⟨g1, g2, g3⟩ := opl_of hS1
    have h1o : opl lf p ≠ 1 := by rw [g1]; show 9 ≠ 1; omega
    rw [sz_C] at hd4 ⊢
    rw [hbs_C, rws_C]
    have zx := sz_pos x hx
    obtain ⟨M1, e1, F1, G1⟩ := rp_A h m (j := j) g3 hj (at_ hS1) (fun q => h1o q.1)
    rw [g1, g2] at G1
    have k1 := h.add F1 G1
    obtain ⟨M2, e2, F2, G2⟩ := ix hS2 (ly F1 x hx hL.2.1) (by omega) hsc.1 k1
    have k2 := k1.add F2 G2
    obtain ⟨M3, e3, F3, G3⟩ := ia hS3 (ly F2 a ha (ly F1 a ha hL.2.2.1)) (by omega) hsc.2.1 k2
    have k3 := k2.add F3 G3
    obtain ⟨M4, e4, F4, G4⟩ := ib hS4 (ly F3 b hb (ly F2 b hb (ly F1 b hb hL.2.2.2))) (by omega) hsc.2.2 k3
    refine ⟨M4, ?_, ((F1.trans F2).trans F3).trans F4, ?_⟩
    · rw [show p + (sz x + sz a + sz b + 1) = p + 1 + sz x + sz a + sz b by omega]
      exact e1.trans (e2.trans (e3.trans e4))
    · simpa using G4
theorem c_replace {M : Mem} (hW : Wd M) (hf : TOb fr) (hd : TOb sd) (hf2 : fr ≠ 37) (hd2 : sd ≠ 37) {t s : Tm} (ht : isT t) (hs : isT s) (hR : RowC M fr c (rws t)) (hQ : RowC M sd c (rws s)) (hsc : scp t 0) (hss : scp s 0) {j : Nat} (hj : j < 6) (k : Nat) : ∃ M1, Fq (fun a i => SO 37 a i ∨ SAg a i) M M1 ∧ (∀ k, 3 ≤ k → M1.2.2.2.2 53 k = M.2.2.2.2 53 k) ∧ ((sz (hbs j s t 0) ≤ 200 ∧ f_X7_replace (k + 4) 53 fr (nI j) sd 37 M = some (1, M1) ∧ RowC M1 37 c (rws (hbs j s t 0))) ∨ (200 < sz (hbs j s t 0) ∧ f_X7_replace (k + 4) 53 fr (nI j) sd 37 M = some (0, M1))) := by
  have h37 : TOb 37 := by unfold TOb; omega
  have hl := hR.2.1
  have hl2 := hQ.2.1
  rw [rws_len] at hl hl2
  obtain ⟨M1, y1, F1, L1, E1, Y1, w1, rf1⟩ := c_arrangeR hW hf ht hR hsc k
  obtain ⟨q, hq⟩ : ∃ q, q = k + 3 := ⟨_, rfl⟩
  rw [← hq] at y1
  have hW1 := F1.Wd hW
  have d1 := dC_fq F1 (fun k q => by unfold SAg at q; omega) (fun k q => by unfold SAg at q; omega) (fun k q => by unfold SAg at q; omega)
  have nSd : ∀ a k, SAg a k → a ≠ sd ∧ a ≠ sd + 1 ∧ a ≠ sd + 2 := fun a k q => by unfold SAg at q; unfold TOb at hd; omega
  have Q1 : RowC M1 sd c (rws s) := hQ.mv (F1.int (fun q => (nSd _ _ q).1 rfl)) (F1.ints (fun k q => (nSd _ _ q).2.1 rfl)) (F1.ints (fun k q => (nSd _ _ q).2.2 rfl)) (fun i _ => by rw [d1]) (Nat.le_refl _)
  obtain ⟨Mz, hMz⟩ : ∃ Mz, Mz = wR M1 53 2 (some 37) := ⟨_, rfl⟩
  have Fz : Fq (SO 37) M1 Mz := by rw [hMz]; exact Fq.refl.wR (Or.inr ⟨rfl, by omega⟩) _
  have hWz := Fz.Wd hW1
  obtain ⟨M2, y2, F2, G2⟩ := c_clear (c := c) hWz h37 q
  have iz : ∀ a i, Mz.2.2.1 a i = M1.2.2.1 a i := fun a i => by rw [hMz]
  have dz : ∀ i, dC Mz i = dC M1 i := fun i => by rw [hMz]; rfl
  have sepF := fun a k (q : SO 37 a k) => SO.sep h37 hf (Ne.symm hf2) q
  have sepD := fun a k (q : SO 37 a k) => SO.sep h37 hd (Ne.symm hd2) q
  have d2 := dC_fq F2.q (fun k q => by unfold SO at q; omega) (fun k q => by unfold SO at q; omega) (fun k q => by unfold SO at q; omega)
  have rz : Mz.2.2.2.2 53 2 = some 37 := by rw [hMz]; simp [up2_if]
  have S2 : RpS M2 c fr sd (rws t) (rws s) [] := by
    refine ⟨⟨F2.Wd hWz, hd, h37, hd2, ?_, by rw [F2.2.2.1]; exact rz, G2⟩, hf, hf2, ?_⟩
    · exact Q1.mv ((F2.int (fun x => (sepD _ _ x).1 rfl)).trans (iz _ _)) (funext fun i => (F2.int (fun x => (sepD _ _ x).2.1 rfl)).trans (iz _ _)) (funext fun i => (F2.int (fun x => (sepD _ _ x).2.2 rfl)).trans (iz _ _)) (fun i _ => by rw [d2]; exact dz i) (Nat.le_refl _)
    · exact L1.2.2.2.mv ((F2.int (fun x => (sepF _ _ x).1 rfl)).trans (iz _ _)) (funext fun i => (F2.int (fun x => (sepF _ _ x).2.1 rfl)).trans (iz _ _)) (funext fun i => (F2.int (fun x => (sepF _ _ x).2.2 rfl)).trans (iz _ _)) (fun i _ => by rw [d2]; exact dz i) (Nat.le_refl _)
  have Y2 : Ly M2 t 0 0 (-1) 0 1 (fun _ => 0) := Y1.congr t ht (fun a i h1 h2 _ _ => (F2.int (fun x => by have := SO.n42 h37 x; omega)).trans (iz a i))
  obtain ⟨M3, y3, F3, G3⟩ := rp_tree hs rfl (scp_nm s hs hss (by omega)) (scp_nm t ht hsc (by omega)) (k + 2) hj t ht Sb.self Y2 (by omega) hsc S2
  rw [Nat.zero_add, List.nil_append] at *
  have S3 := S2.add F3 G3
  have hW3 := S3.1.1
  have F13 : Fq (fun a i => SO 37 a i ∨ SAg a i) M M3 := (F1.mono (fun a k q => Or.inr q)).trans ((Fz.trans (F2.trans F3).q).mono (fun a k q => Or.inl q))
  have e0 : f_X7_replace (k + 4) 53 fr (nI j) sd 37 M = lpRp (k + 2) fr sd j (sz t) M3 := by
    rw [← y3]
    unfold lpRp
    rw [show k + 2 + 2 = q + 1 by omega]
    refine (ge_X7_replace_0 (q + 1) 53 fr (nI j) sd 37 M).trans ?_
    unfold T_X7_replace_0
    have y2' : f_X9_clear q 37 (wR M1 53 2 (some 37)) = some ((), M2) := by rw [← hMz]; exact y2
    simp only [↓gd_pos (fO_53 hW), ↓bnd_of (r_53_0 hW), ↓gd_pos (fO_40 hW), ↓bnd2_of (show cal (q + 1) (fun zz => f_X3_arrange zz 40 fr M) = _ from y1), ↓gd_pos (fO_53 hW1), ↓gd_pos (fO_T hW1 h37), ↓bnd2_of (show cal (q + 1) (fun zz => f_X9_clear zz 37 (wR M1 53 2 (some 37))) = _ from y2')]
    rfl
  have eN : M3.2.2.1 fr 2 = nI (sz t) := S3.2.2.2.1
  refine ⟨M3, F13, fun k hk => by rw [F3.2.2.1, F2.2.2.1, hMz]; simp [up2_if, show k ≠ 2 by omega]; exact rf1 53 k (by omega), ?_⟩
  rcases G3.end_ with ⟨g1, g2, g3⟩ | ⟨g1, g2⟩
  · refine Or.inl ⟨g1, ?_, g3⟩
    rw [e0]
    refine (ge_X7_replace_22 (k + 2 + 2) 53 fr (nI j) sd 37 (nI (sz t)) M3).trans ?_
    unfold T_X7_replace_22
    simp (disch := omega) only [↓gd_pos (fO_T hW3 hf), eN, nI_le_, Nat.le_refl, ↓reduceIte, ↓gd_pos (fO_T hW3 h37), g2]
  · refine Or.inr ⟨g1, ?_⟩
    rw [e0]
    exact rp_over S3 g2 (k + 2) (by rw [rws_len]; exact Nat.le_refl _)
end CUT
