/-! SIZE's loops in the reference -/
def S43 (a k : Nat) : Prop := a = 89 ∧ k = 43
section RZ1
variable {M M1 : Mem} {c n p : Nat} {l : List (Nat × Tm)} {H : List (Nat × Fm)} {cl : Nat → List Value → Mem → Option (Int32 × Mem)}
theorem df_eq (n : Nat) (M : Mem) : f_X11_deepestFrom (n + 1) 89 M = lp (st_X11_deepestFrom (r_X11_deepestFrom n) (n + 1)) (0, [.ref 89], M) := rfl
theorem df_0 (hW : Wd M) (h : M.2.2.1 89 43 = nI p) : lp (st_X11_deepestFrom cl (n + 1)) (0, [.ref 89], M) = lp (st_X11_deepestFrom cl (n + 1)) (19, [.ref 89, .int (nI p), .int (nI 0), .int (nI 0)], wI M 89 43 (nI (p + 1))) := by
  refine (ge_X11_deepestFrom_0 cl (n + 1) 89 M).trans ?_
  unfold T_X11_deepestFrom_0
  simp (disch := omega) only [↓gd_pos (fO_R hW), h, nI_1]
  rfl
theorem df_end (hW : Wd M) (hR : WrkR M c l) (hp : p < l.length) {m j : Nat} (hj : ar (opl l p) ≤ j) (hj2 : j ≤ 10) : lp (st_X11_deepestFrom cl (n + 1)) (19, [.ref 89, .int (nI p), .int (nI m), .int (nI j)], M) = some (nI (m + 1), M) := by
  have hl := hR.2.1
  have hor := hR.2.2.1.at_ hp
  have ea := rx_arityR (M := M) n hor.1 hor.2
  have h5 := hR.kd hp
  have hle : (nI (ar (opl l p)) ≤ nI j) = True := eq_true (by have := ar_le (opl l p); rw [nI_le_ (by omega) (by omega)]; exact hj)
  refine (ge_X11_deepestFrom_19 cl (n + 1) 89 (nI p) (nI m) (nI j) M).trans ?_
  unfold T_X11_deepestFrom_19
  simp (disch := omega) only [↓gd_pos (fO_R hW), ↓bnd_of (r_89_20 hW), ↓gd_pos (fA_R hW (a := 105) (by omega) (s_105 hW) (show p < 400 by omega) (by omega)), nI_z, h5, ↓bnd2_of (show cal (n + 1) (fun zz => f_X11_arity zz (nI (opl l p - 1)) M) = _ from ea), hle, ↓reduceIte, nI_1]
theorem df_go (hW : Wd M) (hR : WrkR M c l) (hp : p < l.length) {m j h : Nat} (hj : j < ar (opl l p)) (hm : m < 1000) (hh : h < 1000) (e : cl 0 [.ref 89] M = some (nI h, M1)) : lp (st_X11_deepestFrom cl (n + 1)) (19, [.ref 89, .int (nI p), .int (nI m), .int (nI j)], M) = lp (st_X11_deepestFrom cl (n + 1)) (19, [.ref 89, .int (nI p), .int (nI (max m h)), .int (nI (j + 1))], M1) := by
  have hl := hR.2.1
  have hor := hR.2.2.1.at_ hp
  have ea := rx_arityR (M := M) n hor.1 hor.2
  have h5 := hR.kd hp
  have har := ar_le (opl l p)
  have hle : (nI (ar (opl l p)) ≤ nI j) = False := eq_false (by rw [nI_le_ (by omega) (by omega)]; omega)
  refine (ge_X11_deepestFrom_19 cl (n + 1) 89 (nI p) (nI m) (nI j) M).trans ?_
  unfold T_X11_deepestFrom_19
  by_cases q : h ≤ m
  · have hq : (nI h ≤ nI m) = True := eq_true (by rw [nI_le_ (by omega) (by omega)]; exact q)
    rw [Nat.max_eq_left q]
    simp (disch := omega) only [↓gd_pos (fO_R hW), ↓bnd_of (r_89_20 hW), ↓gd_pos (fA_R hW (a := 105) (by omega) (s_105 hW) (show p < 400 by omega) (by omega)), nI_z, h5, ↓bnd2_of (show cal (n + 1) (fun zz => f_X11_arity zz (nI (opl l p - 1)) M) = _ from ea), hle, ↓reduceIte, ↓bnd2_of e, hq, nI_1]
  · have hq : (nI h ≤ nI m) = False := eq_false (by rw [nI_le_ (by omega) (by omega)]; exact q)
    rw [Nat.max_eq_right (by omega)]
    simp (disch := omega) only [↓gd_pos (fO_R hW), ↓bnd_of (r_89_20 hW), ↓gd_pos (fA_R hW (a := 105) (by omega) (s_105 hW) (show p < 400 by omega) (by omega)), nI_z, h5, ↓bnd2_of (show cal (n + 1) (fun zz => f_X11_arity zz (nI (opl l p - 1)) M) = _ from ea), hle, ↓reduceIte, ↓bnd2_of e, hq, nI_1]
theorem df_main : ∀ t, isT t → ∀ (p K : Nat) (M : Mem), sz t ≤ 200 → Sb l p t → Wd M → WrkR M c l → M.2.2.1 89 43 = nI p → ∃ M1, f_X11_deepestFrom (sz t + 1 + K) 89 M = some (nI (ht t), M1) ∧ Fr S43 M M1 ∧ M1.2.2.1 89 43 = nI (p + sz t) := by
  have nx : ∀ {M : Mem} {p : Nat}, Wd M → WrkR M c l → Wd (wI M 89 43 (nI p)) ∧ WrkR (wI M 89 43 (nI p)) c l ∧ Fr S43 M (wI M 89 43 (nI p)) ∧ (wI M 89 43 (nI p)).2.2.1 89 43 = nI p := by
    intro M p hW hR
    have F : Fr S43 M (wI M 89 43 (nI p)) := Fr.refl.wI ⟨rfl, rfl⟩ _
    exact ⟨F.Wd hW, hR.tq F (fun a k q => by unfold S43 at q; omega), F, by simp [up2_if]⟩
  have mv : ∀ {M M1 : Mem}, Fr S43 M M1 → WrkR M c l → WrkR M1 c l := fun F hR => hR.tq F (fun a k q => by unfold S43 at q; omega)
  apply tm_ind
  · intro k p K M hz hS hW hR h43
    obtain ⟨o1, o2, o3⟩ := opl_of hS.L
    obtain ⟨hW0, hR0, F0, g0⟩ := nx (p := p + 1) hW hR
    refine ⟨_, ?_, F0, g0⟩
    rw [show sz (tL k) + 1 + K = (1 + K) + 1 by rw [sz_L]; omega, df_eq, df_0 hW h43, df_end hW0 hR0 o3 (by rw [o1]; exact Nat.zero_le _) (by omega)]
    rfl
  · intro k p K M hz hS hW hR h43
    obtain ⟨o1, o2, o3⟩ := opl_of hS.H
    obtain ⟨hW0, hR0, F0, g0⟩ := nx (p := p + 1) hW hR
    refine ⟨_, ?_, F0, g0⟩
    rw [show sz (tH k) + 1 + K = (1 + K) + 1 by rw [sz_H]; omega, df_eq, df_0 hW h43, df_end hW0 hR0 o3 (by rw [o1]; exact Nat.zero_le _) (by omega)]
    rfl
  · intro o f a ho ha ih p K M hz hS hW hR h43
    rw [sz_U] at hz
    obtain ⟨o1, o2, o3⟩ := opl_of hS.U.1
    have har : ar (opl l p) = 1 := by rw [o1]; exact ar_U ho
    obtain ⟨hW0, hR0, F0, g0⟩ := nx (p := p + 1) hW hR
    obtain ⟨M1, e1, F1, g1⟩ := ih (p + 1) K _ (by omega) hS.U.2 hW0 hR0 g0
    have g := ht_le a ha
    refine ⟨M1, ?_, F0.trans F1, by rw [g1, sz_U]; congr 1; omega⟩
    obtain ⟨n, hn⟩ : ∃ n, n = sz a + 1 + K := ⟨_, rfl⟩
    rw [← hn] at e1
    rw [show sz (tU o f a) + 1 + K = n + 1 by rw [sz_U]; omega, df_eq, df_0 hW h43, df_go hW0 hR0 o3 (by omega) (by omega) (by omega) e1, df_end (F1.Wd hW0) (mv F1 hR0) o3 (by omega) (by omega), ht_U, show max 0 (ht a) + 1 = 1 + ht a by omega]
  · intro o a b ho ha hb ia ib p K M hz hS hW hR h43
    rw [sz_B] at hz
    obtain ⟨o1, o2, o3⟩ := opl_of hS.B.1
    have har : ar (opl l p) = 2 := by rw [o1]; exact ar_B ho
    obtain ⟨hW0, hR0, F0, g0⟩ := nx (p := p + 1) hW hR
    obtain ⟨M1, e1, F1, g1⟩ := ia (p + 1) (sz b + K) _ (by omega) hS.B.2.1 hW0 hR0 g0
    obtain ⟨M2, e2, F2, g2⟩ := ib (p + 1 + sz a) (sz a + K) _ (by omega) hS.B.2.2 (F1.Wd hW0) (mv F1 hR0) g1
    have ga := ht_le a ha
    have gb := ht_le b hb
    have F12 := F1.trans F2
    refine ⟨M2, ?_, F0.trans F12, by rw [g2, sz_B]; congr 1; omega⟩
    obtain ⟨n, hn⟩ : ∃ n, n = sz a + sz b + 1 + K := ⟨_, rfl⟩
    rw [show sz a + 1 + (sz b + K) = n by omega] at e1
    rw [show sz b + 1 + (sz a + K) = n by omega] at e2
    rw [show sz (tB o a b) + 1 + K = n + 1 by rw [sz_B]; omega, df_eq, df_0 hW h43, df_go hW0 hR0 o3 (by omega) (by omega) (by omega) e1, df_go (F1.Wd hW0) (mv F1 hR0) o3 (by omega) (by omega) (by omega) e2, df_end (F12.Wd hW0) (mv F12 hR0) o3 (by omega) (by omega), ht_B, show max (max 0 (ht a)) (ht b) + 1 = 1 + max (ht a) (ht b) by omega]
  · intro m a b hm ha hb im ia ib p K M hz hS hW hR h43
    rw [sz_C] at hz
    obtain ⟨o1, o2, o3⟩ := opl_of hS.C.1
    have har : ar (opl l p) = 3 := by rw [o1]; rfl
    obtain ⟨hW0, hR0, F0, g0⟩ := nx (p := p + 1) hW hR
    obtain ⟨M1, e1, F1, g1⟩ := im (p + 1) (sz a + sz b + K) _ (by omega) hS.C.2.1 hW0 hR0 g0
    obtain ⟨M2, e2, F2, g2⟩ := ia (p + 1 + sz m) (sz m + sz b + K) _ (by omega) hS.C.2.2.1 (F1.Wd hW0) (mv F1 hR0) g1
    have F12 := F1.trans F2
    obtain ⟨M3, e3, F3, g3⟩ := ib (p + 1 + sz m + sz a) (sz m + sz a + K) _ (by omega) hS.C.2.2.2 (F12.Wd hW0) (mv F12 hR0) g2
    have gm := ht_le m hm
    have ga := ht_le a ha
    have gb := ht_le b hb
    have F13 := F12.trans F3
    refine ⟨M3, ?_, F0.trans F13, by rw [g3, sz_C]; congr 1; omega⟩
    obtain ⟨n, hn⟩ : ∃ n, n = sz m + sz a + sz b + 1 + K := ⟨_, rfl⟩
    rw [show sz m + 1 + (sz a + sz b + K) = n by omega] at e1
    rw [show sz a + 1 + (sz m + sz b + K) = n by omega] at e2
    rw [show sz b + 1 + (sz m + sz a + K) = n by omega] at e3
    rw [show sz (tC m a b) + 1 + K = n + 1 by rw [sz_C]; omega, df_eq, df_0 hW h43, df_go hW0 hR0 o3 (by omega) (by omega) (by omega) e1, df_go (F1.Wd hW0) (mv F1 hR0) o3 (by omega) (by omega) (by omega) e2, df_go (F12.Wd hW0) (mv F12 hR0) o3 (by omega) (by omega) (by omega) e3, df_end (F13.Wd hW0) (mv F13 hR0) o3 (by omega) (by omega), ht_C, show max (max (max 0 (ht m)) (ht a)) (ht b) + 1 = 1 + max (ht m) (max (ht a) (ht b)) by omega]
theorem or_z (x : Int32) : x ||| 0 = x := by simp
theorem sz99_loop (hW : Wd M) (hR : WrkR M c l) (hn : nmL l) : ∀ z i, i + z = l.length → ∀ acc, lp (st_X11_size n) (99, [.ref 89, .int acc, .int (nI i)], M) = some (hu acc (l.drop i), M) := by
  have hl := hR.2.1
  intro z
  induction z with
  | zero =>
    intro i hi acc
    refine (ge_X11_size_99 n 89 acc (nI i) M).trans ?_
    unfold T_X11_size_99
    have hle : (nI l.length ≤ nI i) = True := eq_true (by rw [nI_le_ (by omega) (by omega)]; omega)
    simp (disch := omega) only [↓gd_pos (fO_R hW), hR.1, hle, ↓reduceIte]
    rw [List.drop_of_length_le (by omega)]
    rfl
  | succ z ih =>
    intro i hi acc
    have hil : i < l.length := by omega
    have hle : (nI l.length ≤ nI i) = False := eq_false (by rw [nI_le_ (by omega) (by omega)]; omega)
    have hor := hR.2.2.1.at_ hil
    have e1 := hR.kd hil
    have e2 := hR.ag hil
    have fA1 := fA_R hW (a := 105) (by omega) (s_105 hW) (show i < 400 by omega) (by omega)
    have fA2 := fA_R hW (a := 106) (by omega) (s_106 hW) (show i < 400 by omega) (by omega)
    rw [drop_c hil]
    show _ = some (hu (hun acc (opl l i) (lbl l i)) (l.drop (i + 1)), M)
    rw [← ih (i + 1) (by omega)]
    refine (ge_X11_size_99 n 89 acc (nI i) M).trans ?_
    unfold T_X11_size_99
    obtain ⟨g, hg⟩ : ∃ g, g = M.2.2.1 106 i := ⟨_, rfl⟩
    rw [← hg] at e2
    by_cases h1 : opl l i = 1
    · have hq : (nI (opl l i - 1) = (0 : Int32)) = True := eq_true (by rw [h1]; rfl)
      have e2 : g = nv (lbl l i) := e2.1 h1
      rcases (hn _ (List.mem_of_getElem? (opl_get hil))).1 h1 with ⟨j, hj, hj2⟩ | ⟨j, hj, hj2⟩
      · have hj : lbl l i = .index j := hj
        have hge : ((0 : Int32) ≤ g) = True := eq_true (by rw [e2, hj, show nv (.index j) = nI j from rfl, show (0 : Int32) = nI 0 from rfl, nI_le_ (by omega) (by omega)]; omega)
        have hh : hun acc (opl l i) (lbl l i) = acc := by unfold hun; rw [if_pos h1, hj]
        rw [hh]
        simp (disch := omega) only [↓gd_pos (fO_R hW), hR.1, hle, ↓reduceIte, ↓bnd_of (r_89_20 hW), ↓gd_pos fA1, nI_z, e1, hq, ↓bnd_of (r_89_21 hW), ↓gd_pos fA2, ← hg, hge, nI_1, or_z]
      · have hj : lbl l i = .arg j := hj
        have hgk : g = -1 - nI j := by rw [e2, hj]; rfl
        have hge : ((0 : Int32) ≤ g) = False := eq_false (by rw [hgk]; exact Int32.not_le.mpr (hy_neg (by omega)))
        have hgi : -1 - g = nI j := by rw [hgk]; exact neg_n1 j
        obtain ⟨y, hy⟩ : ∃ y, y = -1 - g := ⟨_, rfl⟩
        have hh : hun acc (opl l i) (lbl l i) = acc ||| ((1 : Int32) <<< (y &&& 31)) := by unfold hun; rw [if_pos h1, hj, hy, hgi]
        rw [hh]
        clear hgk hgi e2 hh
        simp (disch := omega) only [↓gd_pos (fO_R hW), hR.1, hle, ↓reduceIte, ↓bnd_of (r_89_20 hW), ↓gd_pos fA1, nI_z, e1, hq, ↓bnd_of (r_89_21 hW), ↓gd_pos fA2, ← hg, hge, ← hy, nI_1]
    · have hq : (nI (opl l i - 1) = (0 : Int32)) = False := eq_false (fun z => by have := (nI_eq (b := 0) (by omega) (by omega)).mp z; omega)
      have hh : hun acc (opl l i) (lbl l i) = acc := by unfold hun; rw [if_neg h1]
      rw [hh]
      simp (disch := omega) only [↓gd_pos (fO_R hW), hR.1, hle, ↓reduceIte, ↓bnd_of (r_89_20 hW), ↓gd_pos fA1, nI_z, e1, hq, nI_1, or_z]
end RZ1
