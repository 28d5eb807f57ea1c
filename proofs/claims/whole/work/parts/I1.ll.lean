/-! LINES: what they say, how long; all of them in the reference -/
def nbk (l : List Nat) : Nat := (l.filter (fun x => decide (x ≠ 32))).length
theorem nbk_le (l : List Nat) : nbk l ≤ l.length := List.length_filter_le _ _
theorem nbk_app (a b : List Nat) : nbk (a ++ b) = nbk a + nbk b := by unfold nbk; rw [List.filter_append, List.length_append]
theorem nbk_32 (b : List Nat) : nbk (32 :: b) = nbk b := by unfold nbk; simp
/-- a quarter is blanks, from any place on -/
def QB (l : List Nat) : Prop := ∀ k, 4 * nbk (l.drop k) ≤ 3 * (l.drop k).length + 3
theorem QB.sm {l : List Nat} (h : l.length ≤ 3) : QB l := fun k => by
  have h1 := nbk_le (l.drop k)
  rw [List.length_drop] at h1 ⊢
  omega
theorem QB.join {a b : List Nat} (ha : QB a) (hb : QB b) : QB (a ++ 32 :: b) := fun k => by
  by_cases hk : k ≤ a.length
  · have h1 := ha k
    have h2 := hb 0
    rw [List.drop_zero] at h2
    rw [List.drop_append_of_le_length hk, nbk_app, nbk_32, List.length_append, List.length_cons]
    omega
  · obtain ⟨j, hj⟩ : ∃ j, k = a.length + (j + 1) := ⟨k - a.length - 1, by omega⟩
    have e : (a ++ 32 :: b).drop k = b.drop j := by
      rw [hj, List.drop_append]
      simp
    rw [e]
    exact hb j
theorem fsp_QB : ∀ {c : Nat} {k l r : Nat → Int32}, TbI c k l r → c ≤ 20000 → ∀ i, i < c → QB (fsp (dT k l r i)) := by
  have wl3 : ∀ j, j < 12 → wlen j ≤ 3 := by decide +kernel
  intro c k l r hT hc i
  induction i using Nat.strongRecOn with
  | ind i ih =>
  intro hi
  rcases hT i hi with ⟨j, hj, e1, e2, e3⟩ | ⟨j, a, b, h1, h2, ha, hb, e1, e2, e3⟩
  · rw [dT_leaf hT (by omega) hi hj e1]
    exact QB.sm (by show (wrd j).length ≤ 3; rw [wrd_len]; exact wl3 j (by omega))
  · rw [dT_node hT (by omega) hi h1 h2 e1 e2 e3 ha hb, fsp_mk h1 h2]
    exact QB.join (QB.sm (by rw [wrd_len]; exact wl3 j (by omega))) (QB.join (ih a ha (by omega)) (ih b hb (by omega)))
theorem tcn_q {l : List Nat} (h : QB l) (hl : l.length ≤ 4800000000) : tcn l < 4294967295 := by
  by_cases q : l.length ≤ 2147483648
  · rw [tcn_s q]; omega
  · rw [tcn_b (by omega)]
    have h1 := h 2147483648
    rw [List.length_drop] at h1
    unfold nbk at h1
    omega
theorem fLR {P : Fm → Prop} (hP : PtC P) {f : Fm} (h : P f) : P (fL f) ∧ P (fR f) := by
  cases f with
  | sub a b => exact (hP a b).2.2 h
  | _ => exact ⟨h, h⟩
theorem lnF_P {P : Fm → Prop} (hP : PtC P) (tl : Nat → Fm) : ∀ t, isT t → ∀ (p d : Nat) (A : Nat → Nat) (acc : List Ln), LbP P t → (∀ i, p ≤ i → i < p + sz t → P (tl i)) → (∀ e, e ∈ acc → P e.2.1) → ∀ e, e ∈ (lnF tl t p d A acc).2 → P e.2.1 := by
  have ap : ∀ {acc : List Ln} {q : Ln}, (∀ e, e ∈ acc → P e.2.1) → P q.2.1 → ∀ e, e ∈ acc ++ [q] → P e.2.1 := fun h1 h2 e he => by
    rcases List.mem_append.mp he with he | he
    · exact h1 e he
    · rw [List.mem_singleton.mp he]; exact h2
  apply tm_ind
  · intro k p d A acc _ _ h; exact h
  · intro k p d A acc _ _ h; exact h
  · intro o f a ho ha ih p d A acc hL ht h
    rw [LbP_U] at hL
    rw [sz_U] at ht
    by_cases h2 : o = 2
    · subst h2
      rw [lnF_2 rfl]
      exact ap (ih (p + 1) (d + 1) _ _ hL.2 (fun i h1 h2 => ht i (by omega) (by omega)) (ap h (hL.1 (Or.inl rfl)))) (ht p (Nat.le_refl _) (by omega))
    · rw [lnF_U h2 rfl]
      exact ap (ih (p + 1) d A acc hL.2 (fun i h1 h2 => ht i (by omega) (by omega)) h) (ht p (Nat.le_refl _) (by omega))
  · intro o a b ho ha hb ia ib p d A acc hL ht h
    rw [LbP_B ho] at hL
    rw [sz_B] at ht
    rw [lnF_B rfl rfl]
    exact ap (ib _ d A _ hL.2 (fun i h1 h2 => ht i (by omega) (by omega)) (ia (p + 1) d A acc hL.1 (fun i h1 h2 => ht i (by omega) (by omega)) h)) (ht p (Nat.le_refl _) (by omega))
  · intro m a b hm ha hb im ia ib p d A acc hL ht h
    rw [LbP_C] at hL
    rw [sz_C] at ht
    have hps := sz_pos m hm
    obtain ⟨q1, q2⟩ := fLR hP (ht (p + 1) (by omega) (by omega))
    rw [lnF_C rfl rfl rfl]
    exact ap (ib _ (d + 1) _ _ hL.2.2 (fun i h1 h2 => ht i (by omega) (by omega)) (ap (ia _ (d + 1) _ _ hL.2.1 (fun i h1 h2 => ht i (by omega) (by omega)) (ap (im (p + 1) d A acc hL.1 (fun i h1 h2 => ht i (by omega) (by omega)) h) q1)) q2)) (ht p (Nat.le_refl _) (by omega))
def SLl (a k : Nat) : Prop := SSi a k ∨ SLr 0 a k
section LL1
variable {M M1 : Mem} {c n : Nat} {H : List (Nat × Fm)} {gf : Fm} {T : Nat → Option Tm} {CI : Fm → Prop} {K : Nat} {tl : Nat → Fm}
theorem ll_17 : ∀ z i, i + z = H.length → ∀ (M : Mem), Wd M → HyR M 15 96 97 98 c H → LnR M c (hln (H.take i)) → ∃ M1, lp (st_X11_laysLines (n + 1)) (17, [.ref 89, .int (nI i)], M) = lp (st_X11_laysLines (n + 1)) (17, [.ref 89, .int (nI H.length)], M1) ∧ Fr S56 M M1 ∧ LnR M1 c (hln H) := by
  intro z
  induction z with
  | zero =>
    intro i hi M hW hH hN
    have : i = H.length := by omega
    subst this
    exact ⟨M, rfl, Fr.refl, by rw [List.take_of_length_le (Nat.le_refl _)] at hN; exact hN⟩
  | succ z ih =>
    intro i hi M hW hH hN
    have h6 := hH.2.1
    have hle : (nI H.length ≤ nI i) = False := eq_false (by rw [nI_le_ (by omega) (by omega)]; omega)
    obtain ⟨-, v, v1, v2, v3⟩ := hH.2.2 i (by omega)
    have hlt : (hln (H.take i)).length = i := by rw [hln_len, List.length_take]; omega
    obtain ⟨M1, y2, F1, N1⟩ := rx_line0 (n := n) hW hN (by omega) v1 0 0
    rw [v3, ← hln_take H (by omega)] at N1
    obtain ⟨u, y2'⟩ : ∃ u, f_X11_line0 n 89 0 (nI v) 0 M = some (u, M1) := ⟨_, y2⟩
    have d1 := dR_o F1 (fun a k q => by unfold S56 at q; omega)
    obtain ⟨M2, y3, F2, N2⟩ := ih (i + 1) (by omega) M1 (F1.Wd hW) (hH.fr (F1.int (by unfold S56; omega)) (F1.ints (by unfold S56; omega)) (F1.ints (by unfold S56; omega)) (F1.ints (by unfold S56; omega)) (Nat.le_refl _) (fun i _ => d1 i)) N1
    refine ⟨M2, ?_, F1.trans F2, N2⟩
    refine (ge_X11_laysLines_17 (n + 1) 89 (nI i) M).trans ?_
    unfold T_X11_laysLines_17
    have fA98 : fA M 98 1 (nI i) := ⟨by rw [hW.1]; omega, 6, s_98 hW, vp_nI (by omega) (by omega)⟩
    simp (disch := omega) only [↓gd_pos (fO_R hW), hH.1, hle, ↓reduceIte, ↓bnd_of (r_89_11 hW), ↓gd_pos fA98, nI_z, v2, ↓bnd2_of (show cal (n + 1) (fun zz => f_X11_line0 zz 89 0 (nI v) 0 M) = _ from y2'), nI_1]
    exact y3
set_option maxHeartbeats 1000000 in
theorem rx_laysLines (h : RfS M c H gf T CI K) (hA : OkA CI H gf T) (hK : 8191 ≤ K) (h8 : M.2.2.1 89 8 = 0) {s : Nat} (hs : s < 4) {t : Tm} {x : Fm} (hTs : T s = some t) (hw : Wc (OkF CI) H.length (hF H) t 0 gN 0 x) (htl : Wt (fun i y => tl i = y) H.length (hF H) t 0 gN 0 x) (k : Nat) : ∃ M1 c1, f_X11_laysLines (k + 406) 89 (nI s) M = some ((), M1) ∧ Fr SLl M M1 ∧ RfS M1 c1 H gf T CI 8191 ∧ WkG M1 c1 CI 0 ∧ LnR M1 c1 (lnA H tl t) := by
  have hW := h.1
  obtain ⟨ht, h2, hlb⟩ := hA.2.2.2 s t hs hTs
  obtain ⟨n, hn⟩ : ∃ n, n = k + 405 := ⟨_, rfl⟩
  obtain ⟨c1, M1, y1, F1, R1, W1, f1⟩ := rx_takes h hA hK (Or.inl h8) hs hTs (k + 201)
  rw [show k + 201 + 204 = n by omega] at y1
  have R1' : RfS M1 c1 H gf T CI 8191 := ⟨R1.1, R1.2.1, R1.2.2.1, R1.2.2.2.1, R1.2.2.2.2.1, (f1 h8).1⟩
  have hW1 := R1.1
  obtain ⟨u, c2, M2, y2, F2, R2, W2, u1, u2, wt, -, -, -⟩ := rx_askedR R1' hA (by omega) ht h2 W1 hw k
  rw [← hn] at y2
  have hW2 := R2.1
  have h6 := R2.2.2.1.2.1
  have tyl : ∀ i, i < (rws t).length → TyR M2 c2 i (tl i) := fun i hi => by
    obtain ⟨y, g1, g2⟩ := (Wt.and t ht wt htl).all t ht i (Nat.zero_le _) (by rw [rws_len] at hi; omega)
    rw [g2]; exact g1
  have F3 : Fr S56 M2 (wI M2 89 56 0) := Fr.refl.wI (Or.inl ⟨rfl, rfl⟩) _
  have d3 := dR_o F3 (fun a k q => by unfold S56 at q; omega)
  have hW3 := F3.Wd hW2
  have hy : ∀ {M' : Mem}, Fr (SLr 0) M2 M' → HyR M' 15 96 97 98 c2 H := fun F => R2.2.2.1.fr (F.int (by unfold SLr; omega)) (F.ints (by unfold SLr; omega)) (F.ints (by unfold SLr; omega)) (F.ints (by unfold SLr; omega)) (Nat.le_refl _) (fun i _ => dR_o F (fun a k q => by unfold SLr at q; omega) i)
  obtain ⟨M4, y4, F4, N4⟩ := ll_17 (n := n) (c := c2) H.length 0 (by omega) (wI M2 89 56 0) hW3 (hy (fr56 F3)) ⟨by simp [up2_if]; rfl, by simp [hln], fun i e hi => by simp [hln] at hi⟩
  have F24 : Fr (SLr 0) M2 M4 := fr56 (F3.trans F4)
  have hW4 := F24.Wd hW2
  have F5 : Fr S43 M4 (wI M4 89 43 0) := Fr.refl.wI ⟨rfl, rfl⟩ _
  have F25 : Fr (SLr 0) M2 (wI M4 89 43 0) := F24.trans (F5.mono (fun a k q => by unfold S43 at q; unfold SLr; omega))
  obtain ⟨M6, y6, F6, N6, -⟩ := lf_main (tl := tl) hW2 R2.2.1 W2 tyl h6 t ht 0 0 (k + (404 - sz t)) (fun _ => 0) gN x (hln H) (wI M4 89 43 0) Sb.self htl (by omega) F25 (N4.fr F5 (fun a k q => by unfold S43 at q; omega)) (by rw [hln_len]; omega) (fun k hk => by omega) (by simp [up2_if]; rfl)
  rw [show sz t + 1 + (k + (404 - sz t)) = n by omega] at y6
  obtain ⟨v6, y6'⟩ : ∃ v, f_X11_linesFrom n 89 0 (wI M4 89 43 0) = some (v, M6) := ⟨_, y6⟩
  have F26 : Fr (SLr 0) M2 M6 := F25.trans F6
  have F02 : Fr SLl M M2 := (F1.mono (fun a k q => by unfold STk at q; show SLl a k; unfold SLl SSi SSu SSq; rcases q with q | q; exact Or.inl (Or.inr (Or.inl (Or.inr q))); exact Or.inl (Or.inr (Or.inr (Or.inr (Or.inl q)))))).trans (F2.mono (fun a k q => Or.inl (Or.inr (Or.inl (Or.inl q)))))
  refine ⟨M6, c2, ?_, F02.trans (F26.mono (fun a k q => Or.inr q)), R2.w F26 (fun a k q => by unfold SLr at q; omega), WkG_of (W2.lr F26) ⟨ht, h2, hlb⟩, N6⟩
  rw [show k + 406 = n + 1 by omega]
  refine (ge_X11_laysLines_0 (n + 1) 89 (nI s) M).trans ?_
  unfold T_X11_laysLines_0
  simp only [↓gd_pos (fO_R hW), ↓bnd2_of (show cal (n + 1) (fun zz => f_X11_takes zz 89 (nI s) M) = _ from y1), ↓gd_pos (fO_R hW1), ↓bnd2_of (show cal (n + 1) (fun zz => f_X11_asked zz 89 M1) = _ from y2), ↓gd_pos (fO_R hW2)]
  refine y4.trans ?_
  refine (ge_X11_laysLines_17 (n + 1) 89 (nI H.length) M4).trans ?_
  unfold T_X11_laysLines_17
  have hle : (nI H.length ≤ nI H.length) = True := eq_true (by rw [nI_le_ (by omega) (by omega)]; exact Nat.le_refl _)
  simp only [↓gd_pos (fO_R hW4), (hy F24).1, hle, ↓reduceIte, ↓bnd2_of (show cal (n + 1) (fun zz => f_X11_linesFrom zz 89 0 (wI M4 89 43 0)) = _ from y6')]
end LL1
