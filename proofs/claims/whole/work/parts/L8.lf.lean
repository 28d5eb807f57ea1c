/-! THE REFERENCE's SEARCH: by the row, and whole -/
section LF8
variable {P : List Fm} {c0 : Nat} {M M1 M2 : Mem} {c c1 c2 p q q1 : Nat} {l l1 : List Fm} {G G1 : Fm} {e e1 : Option (Int32 × Mem)} {n N a b g m j i : Nat} {X Y C A : Fm}
set_option maxHeartbeats 1000000 in
theorem cp_224s (hP : P.length ≤ 40) (hc0 : c0 + 41 < 16384) (hS : HsS P c0 M c p l) (hi : i < l.length) (hp : p + 40 ≤ 60000) (ha : a < c) (hk : M.2.2.1 90 a = nI 9) : lp (st_X11_canProve (r_X11_canProve (n + 1)) (n + 2)) (224, [.ref 89, .int (nI p), .int (nI (p + l.length)), .int (nI g), .int (nI (p + i)), .int (nI a), .int (nI b)], M) = lp (st_X11_canProve (r_X11_canProve (n + 1)) (n + 2)) (32, [.ref 89, .int (nI p), .int (nI (p + l.length)), .int (nI g), .int (nI (p + (i + 1)))], M) := by
  have hcc := hS.cle hP
  refine (ge_X11_canProve_224 (r_X11_canProve (n + 1)) (n + 2) 89 (nI p) (nI (p + l.length)) (nI g) (nI (p + i)) (nI a) (nI b) M).trans ?_
  unfold T_X11_canProve_224
  have q9 : (nI 9 = (9 : Int32)) = True := eq_true rfl
  simp (disch := omega) only [↓gd_pos (fO_R hS.1), ↓bnd_of (r_89_1 hS.1), ↓gd_pos (fA_R hS.1 (a := 90) (by omega) (s_90 hS.1) (show a < 16384 by omega) (by omega)), nI_z, hk, q9, ↓reduceIte, nI_1]
  rfl
set_option maxHeartbeats 4000000 in
theorem cp_mul (hP : P.length ≤ 40) (hc0 : c0 + 41 < 16384) (hK : HsK P c0 (n + 1) N) (hS : HsS P c0 M c p l) (hg : g < c) (hag : Sub (ag (dR M g)) P) (hm : wS l + wG (dR M g) = m) (hmN : m ≤ N) (hr : p + 41 * (m + 2) ≤ 60000) (hi : i < l.length) (hf : l[i] = .mul X Y) : HsE (lp (st_X11_canProve (r_X11_canProve (n + 1)) (n + 2)) (32, [.ref 89, .int (nI p), .int (nI (p + l.length)), .int (nI g), .int (nI (p + i))], M)) P c0 M c (p + l.length) l (dR M g) := by
  have hW := hS.1
  have hcc := hS.cle hP
  have hl := hS.len hP
  have hT := hS.2.1
  have hnd := hS.2.2.2.2.2.1
  have hle : (nI (p + l.length) ≤ nI (p + i)) = False := eq_false (by rw [nI_le_ (by omega) (by omega)]; omega)
  obtain ⟨v, v1, v2, v3⟩ := hS.2.2.2.2.1 i hi
  obtain ⟨a, b, ha, hb, e0, e1, e2, e3, e4⟩ := tab_node (A := X) (B := Y) (j := 10) hT v1 (by omega) (by omega) (v3.trans hf)
  have hel : l[i] ∈ l := List.getElem_mem hi
  have hfl : Jvm.Term.mul X Y ∈ l := by rw [← hf]; exact hel
  obtain ⟨u1, u2⟩ := gr_and (show Sub (gr (.mul X Y)) P by rw [← hf]; exact hS.2.2.2.2.2.2 _ hel)
  have he := ers_wS l i hi
  rw [hf] at he
  have hw : wM (.mul X Y) = 1 + wM X + wM Y := rfl
  have hel2 := List.length_eraseIdx_of_lt hi
  have hbut : ∀ i', i' < l.length → (nI (p + i') = nI (p + i) ↔ i' = i) := fun i' h' => by
    rw [nI_eq (by omega) (by omega)]
    omega
  obtain ⟨M1, f1, F1, H1⟩ := rx_copiesHad hW hS.2.2.2.2.1 (but := nI (p + i)) (j := i) hbut (by omega) (n + 1)
  have g1 : Gwr M c (p + l.length) M1 c := Gwr.row F1 hT
  have hS1 : HsS P c0 M1 c (p + l.length) (l.eraseIdx i) := HsS.next hS g1 (hS.2.2.2.1.row F1) H1 (ers_nd hnd) (fun f hf => Or.inl (List.mem_of_mem_eraseIdx hf))
  obtain ⟨M2, f2, F2, H2⟩ := rx_withHad hS1.1 hS1.2.1 hS1.2.2.2.2.1 (show a < c by omega) (by omega) n
  rw [show dR M1 a = X by rw [d125 F1]; exact e3] at f2 H2
  have g2 : Gwr M1 c (p + l.length + (l.eraseIdx i).length) M2 c := Gwr.row F2 hS1.2.1
  have hS2 : HsS P c0 M2 c (p + l.length) (adl (l.eraseIdx i) X) := HsS.next hS1 (g2.mono (by omega)) (hS1.2.2.2.1.row F2) H2 (adl_nd (ers_nd hnd)) (fun f hf => (adl_mem.mp hf).imp id (fun e => by rw [e]; exact u1))
  have hl2 := hS2.len hP
  have ln1 := adl_len (l.eraseIdx i) X
  obtain ⟨M3, f3, F3, H3⟩ := rx_withHad hS2.1 hS2.2.1 hS2.2.2.2.2.1 (show b < c by omega) (by omega) n
  rw [show dR M2 b = Y by rw [d125 F2, d125 F1]; exact e4] at f3 H3
  have g3 : Gwr M2 c (p + l.length + (adl (l.eraseIdx i) X).length) M3 c := Gwr.row F3 hS2.2.1
  have hS3 : HsS P c0 M3 c (p + l.length) (adl (adl (l.eraseIdx i) X) Y) := HsS.next hS2 (g3.mono (by omega)) (hS2.2.2.2.1.row F3) H3 (adl_nd (adl_nd (ers_nd hnd))) (fun f hf => (adl_mem.mp hf).imp id (fun e => by rw [e]; exact u2))
  have ln2 := adl_len (adl (l.eraseIdx i) X) Y
  have gg : Gwr M c (p + l.length) M3 c := (g1.trans g2 (by omega)).trans g3 (by omega)
  have w1 := adl_wS (l := l.eraseIdx i) (x := X)
  have w2 := adl_wS (l := adl (l.eraseIdx i) X) (x := Y)
  have dg := gg.2.2.2 g hg
  have K := hK M3 c (p + l.length) _ g hS3 hg (by rw [dg]; exact hag) (by rw [dg]; omega) (by rw [dg]; omega)
  rw [dg] at K
  have r := rw_2 (x := X) (y := Y) hi hnd
  rw [hf] at r
  refine HsE.eq (HsE.iff (HsE.pre (HsE.fin K) gg (by omega)) (el_and hfl r)) ?_
  refine (ge_X11_canProve_32 (r_X11_canProve (n + 1)) (n + 2) 89 (nI p) (nI (p + l.length)) (nI g) (nI (p + i)) M).trans ?_
  unfold T_X11_canProve_32
  have q10 : (nI 10 = (10 : Int32)) = True := eq_true rfl
  simp (disch := omega) only [hle, ↓reduceIte, ↓gd_pos (fO_R hW), ↓bnd_of (r_89_60 hW), ↓gd_pos (f125 hW (show p + i < 60000 by omega)), nI_z, v2, ↓bnd_of (r_89_2 hW), ↓bnd_of (r_89_3 hW), ↓bnd_of (r_89_1 hW), ↓gd_pos (fA_R hW (a := 90) (by omega) (s_90 hW) (show v < 16384 by omega) (by omega)), ↓gd_pos (fA_R hW (a := 91) (by omega) (s_91 hW) (show v < 16384 by omega) (by omega)), ↓gd_pos (fA_R hW (a := 92) (by omega) (s_92 hW) (show v < 16384 by omega) (by omega)), e0, q10, e1, e2, ↓bnd2_of (show cal (n + 2) (fun zz => f_X11_copiesHad zz 89 (nI p) (nI (p + l.length)) (nI (p + i)) M) = _ from f1), ↓gd_pos (fO_R hS1.1), ↓bnd2_of (show cal (n + 2) (fun zz => f_X11_withHad zz 89 (nI (p + l.length)) (nI (p + l.length + (l.eraseIdx i).length)) (nI a) M1) = _ from f2), ↓gd_pos (fO_R hS2.1), ↓bnd2_of (show cal (n + 2) (fun zz => f_X11_withHad zz 89 (nI (p + l.length)) (nI (p + l.length + (adl (l.eraseIdx i) X).length)) (nI b) M2) = _ from f3), ↓gd_pos (fO_R hS3.1)]
set_option maxHeartbeats 4000000 in
theorem cp_sub (hP : P.length ≤ 40) (hc0 : c0 + 41 < 16384) (hK : HsK P c0 (n + 1) N) (hS : HsS P c0 M c p l) (hg : g < c) (hag : Sub (ag (dR M g)) P) (hm : wS l + wG (dR M g) = m) (hmN : m ≤ N) (hr : p + 41 * (m + 2) ≤ 60000) (hi : i < l.length) (hf : l[i] = .sub X Y) : HsE (lp (st_X11_canProve (r_X11_canProve (n + 1)) (n + 2)) (32, [.ref 89, .int (nI p), .int (nI (p + l.length)), .int (nI g), .int (nI (p + i))], M)) P c0 M c (p + l.length) l (dR M g) := by
  have hW := hS.1
  have hcc := hS.cle hP
  have hl := hS.len hP
  have hT := hS.2.1
  have hnd := hS.2.2.2.2.2.1
  have hle : (nI (p + l.length) ≤ nI (p + i)) = False := eq_false (by rw [nI_le_ (by omega) (by omega)]; omega)
  obtain ⟨v, v1, v2, v3⟩ := hS.2.2.2.2.1 i hi
  obtain ⟨a, b, ha, hb, e0, e1, e2, e3, e4⟩ := tab_node (A := X) (B := Y) (j := 11) hT v1 (by omega) (by omega) (v3.trans hf)
  have hel : l[i] ∈ l := List.getElem_mem hi
  have hfl : Jvm.Term.sub X Y ∈ l := by rw [← hf]; exact hel
  obtain ⟨u1, u2⟩ := gr_or (show Sub (gr (.sub X Y)) P by rw [← hf]; exact hS.2.2.2.2.2.2 _ hel)
  have he := ers_wS l i hi
  rw [hf] at he
  have hw : wM (.sub X Y) = 1 + max (wM X) (wM Y) := rfl
  have mx1 := Nat.le_max_left (wM X) (wM Y)
  have mx2 := Nat.le_max_right (wM X) (wM Y)
  have hel2 := List.length_eraseIdx_of_lt hi
  have hbut : ∀ i', i' < l.length → (nI (p + i') = nI (p + i) ↔ i' = i) := fun i' h' => by
    rw [nI_eq (by omega) (by omega)]
    omega
  obtain ⟨M1, f1, F1, H1⟩ := rx_copiesHad hW hS.2.2.2.2.1 (but := nI (p + i)) (j := i) hbut (by omega) (n + 1)
  have g1 : Gwr M c (p + l.length) M1 c := Gwr.row F1 hT
  have hS1 : HsS P c0 M1 c (p + l.length) (l.eraseIdx i) := HsS.next hS g1 (hS.2.2.2.1.row F1) H1 (ers_nd hnd) (fun f hf => Or.inl (List.mem_of_mem_eraseIdx hf))
  obtain ⟨M2, f2, F2, H2⟩ := rx_withHad hS1.1 hS1.2.1 hS1.2.2.2.2.1 (show a < c by omega) (by omega) n
  rw [show dR M1 a = X by rw [d125 F1]; exact e3] at f2 H2
  have g2 : Gwr M1 c (p + l.length + (l.eraseIdx i).length) M2 c := Gwr.row F2 hS1.2.1
  have hS2 : HsS P c0 M2 c (p + l.length) (adl (l.eraseIdx i) X) := HsS.next hS1 (g2.mono (by omega)) (hS1.2.2.2.1.row F2) H2 (adl_nd (ers_nd hnd)) (fun f hf => (adl_mem.mp hf).imp id (fun e => by rw [e]; exact u1))
  have ln1 := adl_len (l.eraseIdx i) X
  have gg2 : Gwr M c (p + l.length) M2 c := g1.trans g2 (by omega)
  have w1 := adl_wS (l := l.eraseIdx i) (x := X)
  have dg := gg2.2.2.2 g hg
  have K := hK M2 c (p + l.length) _ g hS2 hg (by rw [dg]; exact hag) (by rw [dg]; omega) (by rw [dg]; omega)
  rw [dg] at K
  have r1 := rw_1 (x := X) hi hnd
  have r2 := rw_1 (x := Y) hi hnd
  rw [hf] at r1 r2
  have EO : EL l (dR M g) ↔ _ := el_or (g := dR M g) hfl r1 r2
  have q10 : (nI 11 = (10 : Int32)) = False := eq_false (by decide)
  have q11 : (nI 11 = (11 : Int32)) = True := eq_true rfl
  have z1 : ((1 : Int32) = 0) = False := eq_false (by decide)
  have start := ge_X11_canProve_32 (r_X11_canProve (n + 1)) (n + 2) 89 (nI p) (nI (p + l.length)) (nI g) (nI (p + i)) M
  obtain ⟨w, M5, c5, k1, k2, k3, k4⟩ := K
  have gg5 : Gwr M c (p + l.length) M5 c5 := gg2.trans k3 (by omega)
  have hS5 : HsS P c0 M5 c5 p l := hS.gw gg5 k4 (Nat.le_refl _)
  have cc5 := gg5.2.2.1
  have c5le := hS5.cle hP
  rcases k2 with ⟨rfl, ky⟩ | ⟨rfl, kn⟩
  · obtain ⟨M6, f6, F6, H6⟩ := rx_copiesHad hS5.1 hS5.2.2.2.2.1 (but := nI (p + i)) (j := i) hbut (by omega) (n + 1)
    have g6 : Gwr M5 c5 (p + l.length) M6 c5 := Gwr.row F6 hS5.2.1
    have hS6 : HsS P c0 M6 c5 (p + l.length) (l.eraseIdx i) := HsS.next hS5 g6 (hS5.2.2.2.1.row F6) H6 (ers_nd hnd) (fun f hf => Or.inl (List.mem_of_mem_eraseIdx hf))
    obtain ⟨M7, f7, F7, H7⟩ := rx_withHad hS6.1 hS6.2.1 hS6.2.2.2.2.1 (show b < c5 by omega) (by omega) n
    rw [show dR M6 b = Y by rw [d125 F6]; exact (gg5.2.2.2 b (by omega)).trans e4] at f7 H7
    have g7 : Gwr M6 c5 (p + l.length + (l.eraseIdx i).length) M7 c5 := Gwr.row F7 hS6.2.1
    have hS7 : HsS P c0 M7 c5 (p + l.length) (adl (l.eraseIdx i) Y) := HsS.next hS6 (g7.mono (by omega)) (hS6.2.2.2.1.row F7) H7 (adl_nd (ers_nd hnd)) (fun f hf => (adl_mem.mp hf).imp id (fun e => by rw [e]; exact u2))
    have gg7 : Gwr M c (p + l.length) M7 c5 := (gg5.trans g6 (Nat.le_refl _)).trans g7 (by omega)
    have w3 := adl_wS (l := l.eraseIdx i) (x := Y)
    have ln3 := adl_len (l.eraseIdx i) Y
    have dg7 := gg7.2.2.2 g hg
    have K2 := hK M7 c5 (p + l.length) _ g hS7 (by omega) (by rw [dg7]; exact hag) (by rw [dg7]; omega) (by rw [dg7]; omega)
    rw [dg7] at K2
    refine HsE.eq (HsE.iff (HsE.pre (HsE.fin K2) gg7 (by omega)) (EO.trans ⟨fun z => z.2, fun z => ⟨ky, z⟩⟩)) (start.trans ?_)
    unfold T_X11_canProve_32
    simp (disch := omega) only [hle, ↓reduceIte, ↓gd_pos (fO_R hW), ↓bnd_of (r_89_60 hW), ↓gd_pos (f125 hW (show p + i < 60000 by omega)), nI_z, v2, ↓bnd_of (r_89_2 hW), ↓bnd_of (r_89_3 hW), ↓bnd_of (r_89_1 hW), ↓gd_pos (fA_R hW (a := 90) (by omega) (s_90 hW) (show v < 16384 by omega) (by omega)), ↓gd_pos (fA_R hW (a := 91) (by omega) (s_91 hW) (show v < 16384 by omega) (by omega)), ↓gd_pos (fA_R hW (a := 92) (by omega) (s_92 hW) (show v < 16384 by omega) (by omega)), e0, q10, q11, e1, e2, ↓bnd2_of (show cal (n + 2) (fun zz => f_X11_copiesHad zz 89 (nI p) (nI (p + l.length)) (nI (p + i)) M) = _ from f1), ↓gd_pos (fO_R hS1.1), ↓bnd2_of (show cal (n + 2) (fun zz => f_X11_withHad zz 89 (nI (p + l.length)) (nI (p + l.length + (l.eraseIdx i).length)) (nI a) M1) = _ from f2), ↓gd_pos (fO_R hS2.1), ↓bnd2_of k1, z1, ↓gd_pos (fO_R hS5.1), ↓bnd2_of (show cal (n + 2) (fun zz => f_X11_copiesHad zz 89 (nI p) (nI (p + l.length)) (nI (p + i)) M5) = _ from f6), ↓gd_pos (fO_R hS6.1), ↓bnd2_of (show cal (n + 2) (fun zz => f_X11_withHad zz 89 (nI (p + l.length)) (nI (p + l.length + (l.eraseIdx i).length)) (nI b) M6) = _ from f7), ↓gd_pos (fO_R hS7.1)]
  · refine ⟨0, M5, c5, start.trans ?_, Or.inr ⟨rfl, fun z => kn (EO.mp z).1⟩, gg5, k4⟩
    unfold T_X11_canProve_32
    simp (disch := omega) only [hle, ↓reduceIte, ↓gd_pos (fO_R hW), ↓bnd_of (r_89_60 hW), ↓gd_pos (f125 hW (show p + i < 60000 by omega)), nI_z, v2, ↓bnd_of (r_89_2 hW), ↓bnd_of (r_89_3 hW), ↓bnd_of (r_89_1 hW), ↓gd_pos (fA_R hW (a := 90) (by omega) (s_90 hW) (show v < 16384 by omega) (by omega)), ↓gd_pos (fA_R hW (a := 91) (by omega) (s_91 hW) (show v < 16384 by omega) (by omega)), ↓gd_pos (fA_R hW (a := 92) (by omega) (s_92 hW) (show v < 16384 by omega) (by omega)), e0, q10, q11, e1, e2, ↓bnd2_of (show cal (n + 2) (fun zz => f_X11_copiesHad zz 89 (nI p) (nI (p + l.length)) (nI (p + i)) M) = _ from f1), ↓gd_pos (fO_R hS1.1), ↓bnd2_of (show cal (n + 2) (fun zz => f_X11_withHad zz 89 (nI (p + l.length)) (nI (p + l.length + (l.eraseIdx i).length)) (nI a) M1) = _ from f2), ↓gd_pos (fO_R hS2.1), ↓bnd2_of k1]
end LF8
