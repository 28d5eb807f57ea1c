/-! SPELLING: a term told, in the reference -/
theorem tt_eq (n : Nat) (x y : Int32) (M : Mem) : f_X11_tellsTerm (n + 1) 89 x y M = lp (st_X11_tellsTerm (r_X11_tellsTerm n) (n + 1)) (0, [.ref 89, .int x, .int y], M) := rfl
theorem nps_ca (nm : Nat → List Nat) (pr : Nat) : ∀ t, isT t → ∀ d ca, (nps nm pr t d ca).flatten = ca ++ (nps nm pr t d []).flatten := by
  apply tm_ind
  · intro k d ca
    show ([ca ++ [lvl k]] : List (List (List Nat))).flatten = ca ++ ([[] ++ [lvl k]] : List (List (List Nat))).flatten
    simp
  · intro k d ca
    show ([ca ++ [nm k]] : List (List (List Nat))).flatten = ca ++ ([[] ++ [nm k]] : List (List (List Nat))).flatten
    simp
  · intro o f a _ _ _ d ca
    show ((ca ++ own pr o f d) :: nps nm pr a (d + amN o 0) []).flatten = ca ++ (([] ++ own pr o f d) :: nps nm pr a (d + amN o 0) []).flatten
    simp
  · intro o a b _ _ _ _ _ d ca
    show ((ca ++ own pr o .null d) :: (nps nm pr a d [] ++ nps nm pr b d [])).flatten = ca ++ (([] ++ own pr o .null d) :: (nps nm pr a d [] ++ nps nm pr b d [])).flatten
    simp
  · intro m a b _ _ _ _ _ _ d ca
    show ((ca ++ own pr 9 .null d) :: (nps nm pr m d [] ++ (nps nm pr a (d + 1) [lvl d] ++ nps nm pr b (d + 1) [lvl d]))).flatten = ca ++ (([] ++ own pr 9 .null d) :: (nps nm pr m d [] ++ (nps nm pr a (d + 1) [lvl d] ++ nps nm pr b (d + 1) [lvl d]))).flatten
    simp
section TT0
variable {M M1 M2 : Mem} {c q p p1 pr : Nat} {l : List Nat} {lr : List (Nat × Tm)} {H : List (Nat × Fm)} {cl : Nat → List Value → Mem → Option (Unit × Mem)} {n d : Nat}
theorem tt_112 (h : TtS M c lr H q p1 l) (hp : p < lr.length) : lp (st_X11_tellsTerm cl (n + 1)) (112, [.ref 89, .int (nI d), .int (nI pr), .int (nI p)], M) = lp (st_X11_tellsTerm cl (n + 1)) (130, [.ref 89, .int (nI d), .int (nI pr), .int (nI p), .int (nI (d + amN (opl lr p) 0)), .ref 89], M) := by
  have hW := h.1
  have hR := h.2.2.1
  have hl := hR.2.1
  have hor := hR.2.2.1.at_ hp
  have h5 := hR.kd hp
  have hA5 := fA_R hW (a := 105) (by omega) (s_105 hW) (show p < 400 by omega) (by omega)
  refine (ge_X11_tellsTerm_112 cl (n + 1) 89 (nI d) (nI pr) (nI p) M).trans ?_
  unfold T_X11_tellsTerm_112
  by_cases ho : opl lr p = 2
  · have hq : (nI (opl lr p - 1) = (1 : Int32)) = True := eq_true (by rw [ho]; rfl)
    simp (disch := omega) only [↓gd_pos (fO_R hW), ↓bnd_of (r_89_20 hW), ↓gd_pos hA5, nI_z, h5, hq, ↓reduceIte, nI_1]
    rw [ho]
    rfl
  · have hq : (nI (opl lr p - 1) = (1 : Int32)) = False := eq_false (fun z => by have := (nI_eq (b := 1) (by omega) (by omega)).mp z; omega)
    simp (disch := omega) only [↓gd_pos (fO_R hW), ↓bnd_of (r_89_20 hW), ↓gd_pos hA5, nI_z, h5, hq, ↓reduceIte]
    rw [am_2 ho]
    rfl
theorem tt_130a (hW : Wd M) {x : Int32} (e : cl 0 [.ref 89, .int x, .int (nI pr)] M = some ((), M1)) (h : TtS M1 c lr H q p1 l) (hp : p < lr.length) (h3 : opl lr p ≠ 3) (h4 : opl lr p ≠ 4) : lp (st_X11_tellsTerm cl (n + 1)) (130, [.ref 89, .int (nI d), .int (nI pr), .int (nI p), .int x, .ref 89], M) = lp (st_X11_tellsTerm cl (n + 1)) (163, [.ref 89, .int (nI d), .int (nI pr), .int (nI p), .int (nI 0)], M1) := by
  have hW1 := h.1
  have hR := h.2.2.1
  have hl := hR.2.1
  have hor := hR.2.2.1.at_ hp
  have h5 := hR.kd hp
  have hA5 := fA_R hW1 (a := 105) (by omega) (s_105 hW1) (show p < 400 by omega) (by omega)
  refine (ge_X11_tellsTerm_130 cl (n + 1) 89 (nI d) (nI pr) (nI p) x 89 M).trans ?_
  unfold T_X11_tellsTerm_130
  have q2 : (nI (opl lr p - 1) = (2 : Int32)) = False := eq_false (fun z => by have := (nI_eq (b := 2) (by omega) (by omega)).mp z; omega)
  have q3 : (nI (opl lr p - 1) = (3 : Int32)) = False := eq_false (fun z => by have := (nI_eq (b := 3) (by omega) (by omega)).mp z; omega)
  simp (disch := omega) only [↓gd_pos (fO_R hW), ↓bnd2_of e, ↓gd_pos (fO_R hW1), ↓bnd_of (r_89_20 hW1), ↓gd_pos hA5, nI_z, h5, q2, q3, ↓reduceIte]
  rfl
theorem tt_130b (hW : Wd M) {x : Int32} (e : cl 0 [.ref 89, .int x, .int (nI pr)] M = some ((), M1)) (h : TtS M1 c lr H q p1 l) (hp : p < lr.length) (h34 : opl lr p = 3 ∨ opl lr p = 4) (e2 : cl 0 [.ref 89, .int (nI d), .int (nI pr)] M1 = some ((), M2)) : lp (st_X11_tellsTerm cl (n + 1)) (130, [.ref 89, .int (nI d), .int (nI pr), .int (nI p), .int x, .ref 89], M) = lp (st_X11_tellsTerm cl (n + 1)) (163, [.ref 89, .int (nI d), .int (nI pr), .int (nI p), .int (nI 0)], M2) := by
  have hW1 := h.1
  have hR := h.2.2.1
  have hl := hR.2.1
  have h5 := hR.kd hp
  have hA5 := fA_R hW1 (a := 105) (by omega) (s_105 hW1) (show p < 400 by omega) (by omega)
  refine (ge_X11_tellsTerm_130 cl (n + 1) 89 (nI d) (nI pr) (nI p) x 89 M).trans ?_
  unfold T_X11_tellsTerm_130
  rcases h34 with h34 | h34
  · have q2 : (nI (opl lr p - 1) = (2 : Int32)) = True := eq_true (by rw [h34]; rfl)
    simp (disch := omega) only [↓gd_pos (fO_R hW), ↓bnd2_of e, ↓gd_pos (fO_R hW1), ↓bnd_of (r_89_20 hW1), ↓gd_pos hA5, nI_z, h5, q2, ↓reduceIte, ↓bnd2_of e2]
    rfl
  · have q2 : (nI (opl lr p - 1) = (2 : Int32)) = False := eq_false (by rw [h34]; decide)
    have q3 : (nI (opl lr p - 1) = (3 : Int32)) = True := eq_true (by rw [h34]; rfl)
    simp (disch := omega) only [↓gd_pos (fO_R hW), ↓bnd2_of e, ↓gd_pos (fO_R hW1), ↓bnd_of (r_89_20 hW1), ↓gd_pos hA5, nI_z, h5, q2, q3, ↓reduceIte, ↓bnd2_of e2]
    rfl
theorem tt_163e (h : TtS M c lr H q p1 l) (hp : p < lr.length) (h9 : opl lr p ≠ 9) : lp (st_X11_tellsTerm cl (n + 1)) (163, [.ref 89, .int (nI d), .int (nI pr), .int (nI p), .int (nI 0)], M) = some ((), M) := by
  have hW := h.1
  have hR := h.2.2.1
  have hl := hR.2.1
  have hor := hR.2.2.1.at_ hp
  have h5 := hR.kd hp
  have hA5 := fA_R hW (a := 105) (by omega) (s_105 hW) (show p < 400 by omega) (by omega)
  refine (ge_X11_tellsTerm_163 cl (n + 1) 89 (nI d) (nI pr) (nI p) (nI 0) M).trans ?_
  unfold T_X11_tellsTerm_163
  have q8 : (nI (opl lr p - 1) = (8 : Int32)) = False := eq_false (fun z => by have := (nI_eq (b := 8) (by omega) (by omega)).mp z; omega)
  simp (disch := omega) only [show ((2 : Int32) ≤ nI 0) = False from eq_false (by decide), ↓gd_pos (fO_R hW), ↓bnd_of (r_89_20 hW), ↓gd_pos hA5, nI_z, h5, q8, ↓reduceIte]
theorem tt_163z : lp (st_X11_tellsTerm cl (n + 1)) (163, [.ref 89, .int (nI d), .int (nI pr), .int (nI p), .int (nI 2)], M) = some ((), M) := by
  refine (ge_X11_tellsTerm_163 cl (n + 1) 89 (nI d) (nI pr) (nI p) (nI 2) M).trans ?_
  unfold T_X11_tellsTerm_163
  simp only [show ((2 : Int32) ≤ nI 2) = True from eq_true (by decide), ↓reduceIte]
theorem tt_163c (h : TtS M c lr H q p1 l) (hp : p < lr.length) (h9 : opl lr p = 9) {j : Nat} (hj : j < 2) {M1 M2 : Mem} (e1 : f_X11_tellsLevel n 89 (nI d) M = some ((), M1)) (hW1 : Wd M1) (e2 : cl 0 [.ref 89, .int (nI (d + 1)), .int (nI pr)] M1 = some ((), M2)) : lp (st_X11_tellsTerm cl (n + 1)) (163, [.ref 89, .int (nI d), .int (nI pr), .int (nI p), .int (nI j)], M) = lp (st_X11_tellsTerm cl (n + 1)) (163, [.ref 89, .int (nI d), .int (nI pr), .int (nI p), .int (nI (j + 1))], M2) := by
  have hW := h.1
  have hR := h.2.2.1
  have hl := hR.2.1
  have h5 := hR.kd hp
  have hA5 := fA_R hW (a := 105) (by omega) (s_105 hW) (show p < 400 by omega) (by omega)
  refine (ge_X11_tellsTerm_163 cl (n + 1) 89 (nI d) (nI pr) (nI p) (nI j) M).trans ?_
  unfold T_X11_tellsTerm_163
  have q8 : (nI (opl lr p - 1) = (8 : Int32)) = True := eq_true (by rw [h9]; rfl)
  have qj : ((2 : Int32) ≤ nI j) = False := eq_false (by rw [show (2 : Int32) = nI 2 from rfl, nI_le_ (by omega) (by omega)]; omega)
  simp (disch := omega) only [qj, ↓gd_pos (fO_R hW), ↓bnd_of (r_89_20 hW), ↓gd_pos hA5, nI_z, h5, q8, ↓reduceIte, ↓bnd2_of (show cal (n + 1) (fun zz => f_X11_tellsLevel zz 89 (nI d) M) = _ from e1), ↓gd_pos (fO_R hW1), nI_1, ↓bnd2_of e2]
theorem tt_nm (h : TtS M c lr H q p l) (hp : p < lr.length) (ho : opl lr p = 1) (hn : 5 ≤ n) {w : List Nat} (hb : tcn (spB l ++ w) < 4294967295) (hw : (∃ k, k < 201 ∧ lbl lr p = .index k ∧ w = lvl k) ∨ ∃ k, k < H.length ∧ lbl lr p = .arg k ∧ w = nmH H k) : ∃ M1, lp (st_X11_tellsTerm cl (n + 1)) (0, [.ref 89, .int (nI d), .int (nI pr)], M) = some ((), M1) ∧ Fr STt M M1 ∧ TtS M1 c lr H q (p + 1) (spB l ++ w) := by
  have hW := h.1
  have hR := h.2.2.1
  have hl := hR.2.1
  have h5 := hR.kd hp
  have h43 := h.2.2.2.2.1
  have hag := (hR.ag hp).1 ho
  have hag : M.2.2.1 106 p = nv (lbl lr p) := hag
  obtain ⟨M0, hM0⟩ : ∃ M0, M0 = wI M 89 43 (nI (p + 1)) := ⟨_, rfl⟩
  have h0 := h.nx (p + 1)
  rw [← hM0] at h0
  have F0 : Fr STt M M0 := by rw [hM0]; exact Fr.refl.wI (by unfold STt; omega) _
  have hW0 := h0.1
  have hA5 := fA_R hW (a := 105) (by omega) (s_105 hW) (show p < 400 by omega) (by omega)
  have hA6 := fA_R hW (a := 106) (by omega) (s_106 hW) (show p < 400 by omega) (by omega)
  have hz : (nI (opl lr p - 1) = (0 : Int32)) = True := eq_true (by rw [ho]; rfl)
  obtain ⟨g, hg⟩ : ∃ g, g = M.2.2.1 106 p := ⟨_, rfl⟩
  rcases hw with ⟨k, hk, hk2, hk3⟩ | ⟨k, hk, hk2, hk3⟩
  · rw [hk3] at hb ⊢
    obtain ⟨M1, e1, F1, S1⟩ := h0.2.2.2.2.2.lev hW0 (n - 1) hk hb
    rw [show n - 1 + 1 = n by omega] at e1
    have hgk : g = nI k := by rw [hg, hag, hk2]; rfl
    rw [← hgk] at e1
    have hge : ((0 : Int32) ≤ g) = True := eq_true (by rw [hgk, show (0 : Int32) = nI 0 from rfl, nI_le_ (by omega) (by omega)]; omega)
    refine ⟨M1, ?_, F0.trans (F1.mono STq_STt), h0.mv F1 S1⟩
    refine (ge_X11_tellsTerm_0 cl (n + 1) 89 (nI d) (nI pr) M).trans ?_
    unfold T_X11_tellsTerm_0
    simp (disch := omega) only [↓gd_pos (fO_R hW), ↓bnd_of (r_89_20 hW), ↓bnd_of (r_89_21 hW), h43, ↓gd_pos hA5, ↓gd_pos hA6, nI_z, up2_if, Nat.reduceEqDiff, false_and, ↓reduceIte, h5, hz, nI_1, ← hM0, ← hg, hge, ↓bnd2_of (show cal (n + 1) (fun zz => f_X11_tellsLevel zz 89 g M0) = _ from e1)]
  · rw [hk3, nmH_at hk] at hb ⊢
    have h6 := h.2.2.2.1.2.1
    obtain ⟨M1, e1, F1, S1⟩ := h0.2.2.2.2.2.hyp hW0 (n - 1) h0.2.2.2.1 hk hb
    rw [show n - 1 + 1 = n by omega] at e1
    have hgk : g = -1 - nI k := by rw [hg, hag, hk2]; rfl
    have hgi : -1 - g = nI k := by rw [hgk]; exact neg_n1 _
    rw [← hgi] at e1
    have hge : ((0 : Int32) ≤ g) = False := eq_false (by rw [hgk]; exact Int32.not_le.mpr (hy_neg (by omega)))
    refine ⟨M1, ?_, F0.trans (F1.mono STq_STt), h0.mv F1 S1⟩
    refine (ge_X11_tellsTerm_0 cl (n + 1) 89 (nI d) (nI pr) M).trans ?_
    unfold T_X11_tellsTerm_0
    clear hgk hgi hag
    simp (disch := omega) only [↓gd_pos (fO_R hW), ↓bnd_of (r_89_20 hW), ↓bnd_of (r_89_21 hW), h43, ↓gd_pos hA5, ↓gd_pos hA6, nI_z, up2_if, Nat.reduceEqDiff, false_and, ↓reduceIte, h5, hz, nI_1, ← hM0, ← hg, hge, ↓bnd2_of (show cal (n + 1) (fun zz => f_X11_tellsHypothesis zz 89 (-1 - g) M0) = _ from e1)]
set_option maxHeartbeats 2000000 in
/-- A TERM, told -/
theorem tt_main (hpr : pr < 2) : ∀ t, isT t → ∀ (d p K : Nat) (M : Mem) (l : List Nat), shp H.length t → scp t d → d + sz t ≤ 200 → Sb lr p t → (∀ nd, nd ∈ rws t → tf nd.1 → dpf nd.2 ≤ 200) → TtS M c lr H q p l → tcn (tls l (nps (nmH H) pr t d []).flatten) < 4294967295 → ∃ M1, f_X11_tellsTerm (sz t + 210 + K) 89 (nI d) (nI pr) M = some ((), M1) ∧ Fr STt M M1 ∧ TtS M1 c lr H q (p + sz t) (tls l (nps (nmH H) pr t d []).flatten) := by
  apply tm_ind
  · intro k d p K M l hsh hsc hd hSb hf hS hb
    obtain ⟨o1, o2, o3⟩ := opl_of hSb.L
    have e : tls l (nps (nmH H) pr (tL k) d []).flatten = spB l ++ lvl k := rfl
    rw [e] at hb ⊢
    have hsc : k < d := hsc
    rw [sz_L] at hd ⊢
    rw [show 1 + 210 + K = (210 + K) + 1 by omega, tt_eq]
    exact tt_nm hS o3 o1 (by omega) hb (Or.inl ⟨k, by omega, o2, rfl⟩)
  · intro k d p K M l hsh hsc hd hSb hf hS hb
    obtain ⟨o1, o2, o3⟩ := opl_of hSb.H
    have e : tls l (nps (nmH H) pr (tH k) d []).flatten = spB l ++ nmH H k := rfl
    rw [e] at hb ⊢
    rw [sz_H] at hd ⊢
    rw [show 1 + 210 + K = (210 + K) + 1 by omega, tt_eq]
    exact tt_nm hS o3 o1 (by omega) hb (Or.inr ⟨k, hsh, o2, rfl⟩)
  · intro o f a hu ha ih d p K M l hsh hsc hd hSb hf hS hb
    obtain ⟨s1, s2⟩ := hSb.U
    obtain ⟨o1, o2, o3⟩ := opl_of s1
    have o1 : opl lr p = o := o1
    have o2 : lbl lr p = f := o2
    have ho : 2 ≤ o ∧ o ≠ 3 ∧ o ≠ 4 ∧ o ≠ 9 := by unfold uOk tf at hu; omega
    have e : tls l (nps (nmH H) pr (tU o f a) d []).flatten = tls (tls l (own pr o f d)) (nps (nmH H) pr a (d + amN o 0) []).flatten := by
      rw [← tls_app]
      show tls l (([] ++ own pr o f d) :: nps (nmH H) pr a (d + amN o 0) []).flatten = _
      rw [List.flatten_cons, List.nil_append]
    rw [e] at hb ⊢
    rw [sz_U] at hd ⊢
    have ham : amN o 0 ≤ 1 := by unfold amN; split <;> simp
    obtain ⟨n, hn⟩ : ∃ n, n = sz a + 210 + K := ⟨_, rfl⟩
    rw [show sz a + 1 + 210 + K = n + 1 by omega, tt_eq]
    obtain ⟨M1, e1, F1, h1⟩ := tt_own (cl := r_X11_tellsTerm n) (n := n) (d := d) (pr := pr) hS o3 (by omega) hpr (by omega) (by omega) (fun w => by rw [o2]; exact hf (o, f) (by rw [rws_U]; exact List.mem_cons_self) (by rw [← o1]; exact w)) (by rw [o1, o2]; exact Nat.lt_of_le_of_lt (tls_tc _ _) hb)
    rw [o1, o2] at h1
    have hsc : scp a (d + amN o 0) := hsc
    obtain ⟨M2, e2, F2, h2⟩ := ih (d + amN o 0) (p + 1) K M1 _ hsh hsc (by omega) s2 (fun nd hm => hf nd (by rw [rws_U]; exact List.mem_cons_of_mem _ hm)) h1 hb
    rw [← hn] at e2
    refine ⟨M2, ?_, F1.trans F2, by rw [show p + (sz a + 1) = p + 1 + sz a by omega]; exact h2⟩
    rw [e1, tt_112 h1 o3, tt_130a h1.1 (by rw [o1]; exact e2) h2 o3 (by omega) (by omega), tt_163e h2 o3 (by omega)]
  · intro o a b ho ha hb' iha ihb d p K M l hsh hsc hd hSb hf hS hb
    obtain ⟨s1, s2, s3⟩ := hSb.B
    obtain ⟨o1, o2, o3⟩ := opl_of s1
    have o1 : opl lr p = o := o1
    have o2 : lbl lr p = .null := o2
    have e : tls l (nps (nmH H) pr (tB o a b) d []).flatten = tls (tls (tls l (own pr o .null d)) (nps (nmH H) pr a d []).flatten) (nps (nmH H) pr b d []).flatten := by
      rw [← tls_app, ← tls_app]
      show tls l (([] ++ own pr o .null d) :: (nps (nmH H) pr a d [] ++ nps (nmH H) pr b d [])).flatten = _
      rw [List.flatten_cons, List.nil_append, List.flatten_append]
    rw [e] at hb ⊢
    rw [sz_B] at hd ⊢
    have hb1 := Nat.lt_of_le_of_lt (tls_tc _ _) hb
    obtain ⟨n, hn⟩ : ∃ n, n = sz a + sz b + 210 + K := ⟨_, rfl⟩
    rw [show sz a + sz b + 1 + 210 + K = n + 1 by omega, tt_eq]
    obtain ⟨M1, e1, F1, h1⟩ := tt_own (cl := r_X11_tellsTerm n) (n := n) (d := d) (pr := pr) hS o3 (by omega) hpr (by omega) (by omega) (fun w => by unfold tf at w; omega) (by rw [o1, o2]; exact Nat.lt_of_le_of_lt (tls_tc _ _) hb1)
    rw [o1, o2] at h1
    have hsc : scp a d ∧ scp b d := hsc
    have hsh : shp H.length a ∧ shp H.length b := hsh
    obtain ⟨M2, e2, F2, h2⟩ := iha d (p + 1) (sz b + K) M1 _ hsh.1 hsc.1 (by omega) s2 (fun nd hm => hf nd (by rw [rws_B]; exact List.mem_cons_of_mem _ (List.mem_append_left _ hm))) h1 hb1
    rw [show sz a + 210 + (sz b + K) = n by omega] at e2
    obtain ⟨M3, e3, F3, h3⟩ := ihb d (p + 1 + sz a) (sz a + K) M2 _ hsh.2 hsc.2 (by omega) s3 (fun nd hm => hf nd (by rw [rws_B]; exact List.mem_cons_of_mem _ (List.mem_append_right _ hm))) h2 hb
    rw [show sz b + 210 + (sz a + K) = n by omega] at e3
    refine ⟨M3, ?_, (F1.trans F2).trans F3, by rw [show p + (sz a + sz b + 1) = p + 1 + sz a + sz b by omega]; exact h3⟩
    rw [e1, tt_112 h1 o3, tt_130b h1.1 (by rw [o1, am_2 (by omega)]; exact e2) h2 o3 (by omega) e3, tt_163e h3 o3 (by omega)]
  · intro m a b hm ha hb' ihm iha ihb d p K M l hsh hsc hd hSb hf hS hb
    obtain ⟨s1, s2, s3, s4⟩ := hSb.C
    obtain ⟨o1, o2, o3⟩ := opl_of s1
    have o1 : opl lr p = 9 := o1
    have o2 : lbl lr p = .null := o2
    have e : tls l (nps (nmH H) pr (tC m a b) d []).flatten = tls (spB (tls (spB (tls (tls l (own pr 9 .null d)) (nps (nmH H) pr m d []).flatten) ++ lvl d) (nps (nmH H) pr a (d + 1) []).flatten) ++ lvl d) (nps (nmH H) pr b (d + 1) []).flatten := by
      rw [← tls_cons, ← tls_cons, ← tls_app, ← tls_app, ← tls_app]
      show tls l (([] ++ own pr 9 .null d) :: (nps (nmH H) pr m d [] ++ (nps (nmH H) pr a (d + 1) [lvl d] ++ nps (nmH H) pr b (d + 1) [lvl d]))).flatten = _
      rw [List.flatten_cons, List.nil_append, List.flatten_append, List.flatten_append, nps_ca _ _ a ha _ [lvl d], nps_ca _ _ b hb' _ [lvl d]]
      simp
    rw [e] at hb ⊢
    rw [sz_C] at hd ⊢
    have hb4 := Nat.lt_of_le_of_lt (tls_tc _ _) hb
    have hb3 := Nat.lt_of_le_of_lt (Nat.le_trans (by obtain ⟨s, hs⟩ := spB_pre (tls (spB (tls (tls l (own pr 9 .null d)) (nps (nmH H) pr m d []).flatten) ++ lvl d) (nps (nmH H) pr a (d + 1) []).flatten); rw [hs, List.append_assoc]; exact tcn_m _ _) (tls_tc (spB (tls (spB (tls (tls l (own pr 9 .null d)) (nps (nmH H) pr m d []).flatten) ++ lvl d) (nps (nmH H) pr a (d + 1) []).flatten) ++ lvl d) [])) hb4
    have hb2 := Nat.lt_of_le_of_lt (tls_tc _ _) hb3
    have hb1 := Nat.lt_of_le_of_lt (Nat.le_trans (by obtain ⟨s, hs⟩ := spB_pre (tls (tls l (own pr 9 .null d)) (nps (nmH H) pr m d []).flatten); rw [hs, List.append_assoc]; exact tcn_m _ _) (tls_tc (spB (tls (tls l (own pr 9 .null d)) (nps (nmH H) pr m d []).flatten) ++ lvl d) [])) hb2
    obtain ⟨n, hn⟩ : ∃ n, n = sz m + sz a + sz b + 210 + K := ⟨_, rfl⟩
    rw [show sz m + sz a + sz b + 1 + 210 + K = n + 1 by omega, tt_eq]
    obtain ⟨M1, e1, F1, h1⟩ := tt_own (cl := r_X11_tellsTerm n) (n := n) (d := d) (pr := pr) hS o3 (by omega) hpr (by omega) (by omega) (fun w => by unfold tf at w; omega) (by rw [o1, o2]; exact Nat.lt_of_le_of_lt (tls_tc _ _) hb1)
    rw [o1, o2] at h1
    have hsc : scp m d ∧ scp a (d + 1) ∧ scp b (d + 1) := hsc
    have hsh : shp H.length m ∧ shp H.length a ∧ shp H.length b := hsh
    obtain ⟨M2, e2, F2, h2⟩ := ihm d (p + 1) (sz a + sz b + K) M1 _ hsh.1 hsc.1 (by omega) s2 (fun nd hm => hf nd (by rw [rws_C]; exact List.mem_cons_of_mem _ (List.mem_append_left _ hm))) h1 hb1
    rw [show sz m + 210 + (sz a + sz b + K) = n by omega] at e2
    obtain ⟨M3, e3, F3, S3⟩ := h2.2.2.2.2.2.lev h2.1 (n - 1) (v := d) (by omega) hb2
    rw [show n - 1 + 1 = n by omega] at e3
    have h3 := h2.mv F3 S3
    obtain ⟨M4, e4, F4, h4⟩ := iha (d + 1) (p + 1 + sz m) (sz m + sz b + K) M3 _ hsh.2.1 hsc.2.1 (by omega) s3 (fun nd hm => hf nd (by rw [rws_C]; exact List.mem_cons_of_mem _ (List.mem_append_right _ (List.mem_append_left _ hm)))) h3 hb3
    rw [show sz a + 210 + (sz m + sz b + K) = n by omega] at e4
    obtain ⟨M5, e5, F5, S5⟩ := h4.2.2.2.2.2.lev h4.1 (n - 1) (v := d) (by omega) hb4
    rw [show n - 1 + 1 = n by omega] at e5
    have h5 := h4.mv F5 S5
    obtain ⟨M6, e6, F6, h6⟩ := ihb (d + 1) (p + 1 + sz m + sz a) (sz m + sz a + K) M5 _ hsh.2.2 hsc.2.2 (by omega) s4 (fun nd hm => hf nd (by rw [rws_C]; exact List.mem_cons_of_mem _ (List.mem_append_right _ (List.mem_append_right _ hm)))) h5 hb
    rw [show sz b + 210 + (sz m + sz a + K) = n by omega] at e6
    refine ⟨M6, ?_, ((((F1.trans F2).trans (F3.mono STq_STt)).trans F4).trans (F5.mono STq_STt)).trans F6, by rw [show p + (sz m + sz a + sz b + 1) = p + 1 + sz m + sz a + sz b by omega]; exact h6⟩
    rw [e1, tt_112 h1 o3, tt_130a h1.1 (by rw [o1, am_2 (by omega)]; exact e2) h2 o3 (by omega) (by omega), tt_163c h2 o3 o1 (j := 0) (by omega) e3 h3.1 e4, tt_163c h4 o3 o1 (j := 1) (by omega) e5 h5.1 e6, tt_163z]
end TT0
