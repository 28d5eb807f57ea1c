/-! THE INVARIANT over calls: spell, length, hypothesis, goalByte -/
def plen : List (List Nat) → Nat
  | [] => 0
  | p :: l => p.length + 1 + plen l
theorem plen_app (a b : List (List Nat)) : plen (a ++ b) = plen a + plen b := by
  induction a with
  | nil => simp [plen]
  | cons x a ih => simp only [List.cons_append, plen, ih]; omega
theorem tls_len : ∀ (ps : List (List Nat)) (l : List Nat), (tls l ps).length ≤ l.length + plen ps := by
  intro ps
  induction ps with
  | nil => intro l; exact Nat.le_refl _
  | cons a ps ih =>
    intro l
    have h1 := ih (spB l ++ a)
    have h2 := (spB_len l).1
    rw [tls_cons]
    rw [List.length_append] at h1
    show _ ≤ l.length + (a.length + 1 + plen ps)
    omega
theorem lvl_len (k : Nat) : (lvl k).length ≤ 3 := by unfold lvl; split <;> simp
theorem nmH_len (H : List (Nat × Fm)) (k : Nat) : (nmH H k).length ≤ 4 := by
  unfold nmH nsp
  have h : ∀ (p : Nat → Bool) (l : List Nat), (l.takeWhile p).length ≤ l.length := fun p l => by
    induction l with
    | nil => exact Nat.le_refl _
    | cons x l ih =>
      rw [List.takeWhile_cons]
      split
      · simp only [List.length_cons]; omega
      · simp
  refine Nat.le_trans (h _ _) ?_
  simp
theorem own_len {pr o : Nat} {f : Fm} {d : Nat} (ho : o ≤ 10) (hf : (o = 2 ∨ o = 7 ∨ o = 8 ∨ o = 10) → (fsp f).length ≤ 30000) : plen (own pr o f d) ≤ 30020 := by
  have h1 := (wch_is (o + 11) (by omega)).1.2.1
  have h2 := lvl_len d
  unfold own
  have e1 : plen (if o = 2 then [lvl d] else []) ≤ 4 := by
    split
    · show (lvl d).length + 1 + 0 ≤ 4; omega
    · exact Nat.zero_le _
  have e2 : plen (if pr = 0 ∧ (o = 2 ∨ o = 7 ∨ o = 8 ∨ o = 10) then [fsp f] else []) ≤ 30001 := by
    split
    · rename_i q
      have := hf q.2
      show (fsp f).length + 1 + 0 ≤ 30001; omega
    · exact Nat.zero_le _
  show (wrd (o + 11)).length + 1 + plen (_ ++ _) ≤ 30020
  rw [plen_app, wrd_len]
  omega
theorem nps_len {nm : Nat → List Nat} (hnm : ∀ k, (nm k).length ≤ 4) (pr : Nat) : ∀ t, isT t → ∀ d ca, LbP (fun f => (fsp f).length ≤ 30000) t → plen (nps nm pr t d ca).flatten ≤ plen ca + 30100 * sz t := by
  apply tm_ind
  · intro k d ca _
    have := lvl_len k
    show plen ([ca ++ [lvl k]] : List (List (List Nat))).flatten ≤ _
    rw [List.flatten_cons, List.flatten_nil, List.append_nil, plen_app, sz_L]
    show plen ca + ((lvl k).length + 1 + 0) ≤ _
    omega
  · intro k d ca _
    have := hnm k
    show plen ([ca ++ [nm k]] : List (List (List Nat))).flatten ≤ _
    rw [List.flatten_cons, List.flatten_nil, List.append_nil, plen_app, sz_H]
    show plen ca + ((nm k).length + 1 + 0) ≤ _
    omega
  · intro o f a ho ha ih d ca hL
    rw [LbP_U] at hL
    have h1 := own_len (pr := pr) (f := f) (d := d) (show o ≤ 10 from ho.rng.2.1) (fun q => hL.1 q)
    have h2 := ih (d + amN o 0) [] hL.2
    show plen ((ca ++ own pr o f d) :: nps nm pr a (d + amN o 0) []).flatten ≤ _
    rw [List.flatten_cons, plen_app, plen_app, sz_U]
    have h0 : plen [] = 0 := rfl
    omega
  · intro o a b ho ha hb ia ib d ca hL
    rw [LbP_B ho] at hL
    have h1 := own_len (pr := pr) (o := o) (f := .null) (d := d) (by omega) (fun q => by omega)
    have h2 := ia d [] hL.1
    have h3 := ib d [] hL.2
    show plen ((ca ++ own pr o .null d) :: (nps nm pr a d [] ++ nps nm pr b d [])).flatten ≤ _
    rw [List.flatten_cons, List.flatten_append, plen_app, plen_app, plen_app, sz_B]
    have h0 : plen [] = 0 := rfl
    omega
  · intro m a b hm ha hb im ia ib d ca hL
    rw [LbP_C] at hL
    have h1 := own_len (pr := pr) (o := 9) (f := .null) (d := d) (by omega) (fun q => by omega)
    have h2 := im d [] hL.1
    have h3 := ia (d + 1) [lvl d] hL.2.1
    have h4 := ib (d + 1) [lvl d] hL.2.2
    have h5 : plen [lvl d] ≤ 4 := by have := lvl_len d; show (lvl d).length + 1 + 0 ≤ 4; omega
    show plen ((ca ++ own pr 9 .null d) :: (nps nm pr m d [] ++ (nps nm pr a (d + 1) [lvl d] ++ nps nm pr b (d + 1) [lvl d]))).flatten ≤ _
    rw [List.flatten_cons, List.flatten_append, List.flatten_append, plen_app, plen_app, plen_app, plen_app, sz_C]
    have h0 : plen [] = 0 := rfl
    omega
section JS5
variable {M M1 M2 : Mem} {c cR cr : Nat} {b : Nat → Nat} {L : Nat} {H : List (Nat × Fm)} {gf : Fm} {T : Nat → Option Tm} {ks : List Nat} {K k : Nat}
theorem HyR.isN {cn aN aL aS : Nat} (h : HyR M cn aN aL aS c H) : isNm H := fun j hj => by
  obtain ⟨⟨f, n, h1, h2, -, -⟩, -⟩ := h.2.2 j hj
  exact ⟨f, n, h1, h2⟩
theorem Inn.fl (hT : TabC M c) {f : Fm} (h : Inn M c f) : (fsp f).length = blen f := by
  obtain ⟨v, v1, v2⟩ := h
  rw [← v2]
  exact hT.long v1
/-- how long what is spelt is -/
theorem slT_len (hT : TabC M c) {CI : Fm → Prop} (hCI : ∀ f, CI f → Inn M c f) (hC : Cls CI) {t : Tm} (ht : isT t) (hz : sz t ≤ 200) {x : Fm} (hw : Wc (OkF CI) H.length (hF H) t 0 gN 0 x) (hB : TmB H t) (w : Nat) : (slT H t x w).length < 10000000 := by
  obtain ⟨hL, y, hy, hx⟩ := hB
  cases Wt.fn t ht hy hw
  unfold slT
  split
  · rw [Inn.fl hT (hCI _ (hw.root t ht).1)]
    omega
  · have hlab := lab_ok (OkF.pt hC) t ht hw
    have h1 := nps_len (nmH_len H) w t ht 0 [] (fun nd hm ho => by
      show (fsp nd.2).length ≤ 30000
      rw [Inn.fl hT (hCI _ (hlab nd hm ho).1)]
      exact hL nd hm ho)
    have h2 := tls_len (nps (nmH H) w t 0 []).flatten []
    have h0 : plen [] = 0 := rfl
    simp only [List.length_nil] at h2
    omega
theorem j_spell (h : Jn k M) (x1 x2 x3 : Int32) : Pr2 (Jn (k + 1)) (f_X10_spell 2047 0 x1 x2 x3) (f_X11_spell 2047 89 x1 x2 x3) M := by
  obtain ⟨c, cR, b, L, H, gf, T, ks, hC, hR, hP, hE, hb, hm⟩ := h
  have hCl := Inn_cls hC.1.2.2.1
  have hN := hR.1.2.2.1.isN
  obtain ⟨a1, a2⟩ := c_spell hC.1 hN 2034 x1 x2 x3
  obtain ⟨r1, r2⟩ := rx_spell hR.1 (hP.ok hCl) (by omega) hR.2.2.2.2 1634 x1 x2 x3
  by_cases hx : (∀ s, s < 4 → x1 ≠ nI s) ∨ ∀ j, j ≤ 2 → x2 ≠ nI j
  · exact jn_ans hb hm hC hR hP hE (a1 hx) (r1 hx)
  · obtain ⟨s, hs, hx1⟩ : ∃ s, s < 4 ∧ x1 = nI s := (slot_cases x1).resolve_right (fun q => hx (Or.inl q))
    obtain ⟨w, hw2, hx2⟩ : ∃ j, j ≤ 2 ∧ x2 = nI j := (what_in x2 2).resolve_right (fun q => hx (Or.inr q))
    obtain ⟨a3, a4⟩ := a2 s w hs hw2 hx1 hx2
    obtain ⟨r3, r4⟩ := r2 s w hs hw2 hx1 hx2
    by_cases h3 : 0 ≤ x3
    · obtain ⟨q, hq, hx3⟩ := ge_nI h3
      obtain ⟨a5, a6⟩ := a4 q hq hx3
      obtain ⟨r5, -⟩ := r4 q hq hx3
      rcases none_or (T s) with hNo | ⟨t, hT⟩
      · exact jn_ans hb hm hC hR hP hE (a5 hNo) (r5 hNo)
      · obtain ⟨ht, hz, x, hw⟩ := hP.2.2 s t hs hT
        have hlen := slT_len hC.1.2.2.1 (fun _ q => q) hCl ht hz hw (hP.2.1.2 s t hs hT) w
        obtain ⟨M1, e1, F1, C1⟩ := a6 t x hT ht (Wc.inn ht hw) (by omega)
        have hS1 : ∀ a k, SSl a k → 10 ≤ a ∧ a < 89 := fun a k q => by unfold SSl SAg S66 at q; omega
        obtain ⟨hR1, hP1, hCl1⟩ := jn_ref hC hR hP F1 hS1
        have hw1 : Wc (OkF (Inn M1 c)) H.length (hF H) t 0 gN 0 x := hw.imp t ht (fun i z _ _ q => q.ci (Inn.cls F1 (fun a k q => (hS1 _ _ q).1)))
        obtain ⟨-, q2⟩ := rx_spell hR1.1 (hP1.ok hCl1) (by omega) hR1.2.2.2.2 1634 x1 x2 x3
        obtain ⟨M2, cr, e2, F2, R2, W2⟩ := ((((q2 s w hs hw2 hx1 hx2).2 q hq hx3).2 t x hT hw1) (by omega))
        exact jn_keep hb hm hC hE e1 F1 (fun a k q => by unfold SSl SAg S66 at q; omega) C1 hR1 hP1 e2 F2 (fun a k q => by unfold SSw SSi SNz SSu SSq SSp SR STd STr SBg at q; omega) ((F2.int (by unfold SSw SSi SNz SSu SSq SSp SR STd STr SBg; omega)).trans hR1.2.2.2.2) R2 (by omega) W2 (by omega)
    · exact jn_ans hb hm hC hR hP hE (a3 h3) (r3 h3)
theorem j_length (h : Jn k M) (x1 x2 : Int32) : Pr2 (Jn (k + 1)) (f_X10_length 2047 0 x1 x2) (f_X11_length 2047 89 x1 x2) M := by
  obtain ⟨c, cR, b, L, H, gf, T, ks, hC, hR, hP, hE, hb, hm⟩ := h
  have hCl := Inn_cls hC.1.2.2.1
  have hN := hR.1.2.2.1.isN
  obtain ⟨a1, a2⟩ := c_length hC.1 hN 2034 x1 x2
  obtain ⟨r1, r2⟩ := rx_length hR.1 (hP.ok hCl) (by omega) hR.2.2.2.2 1634 x1 x2
  by_cases hx : (∀ s, s < 4 → x1 ≠ nI s) ∨ ∀ j, j ≤ 2 → x2 ≠ nI j
  · exact jn_ans hb hm hC hR hP hE (a1 hx) (r1 hx)
  · obtain ⟨s, hs, hx1⟩ : ∃ s, s < 4 ∧ x1 = nI s := (slot_cases x1).resolve_right (fun q => hx (Or.inl q))
    obtain ⟨w, hw2, hx2⟩ : ∃ j, j ≤ 2 ∧ x2 = nI j := (what_in x2 2).resolve_right (fun q => hx (Or.inr q))
    obtain ⟨a5, a6⟩ := a2 s w hs hw2 hx1 hx2
    obtain ⟨r5, -⟩ := r2 s w hs hw2 hx1 hx2
    rcases none_or (T s) with hNo | ⟨t, hT⟩
    · exact jn_ans hb hm hC hR hP hE (a5 hNo) (r5 hNo)
    · obtain ⟨ht, hz, x, hw⟩ := hP.2.2 s t hs hT
      have hlen := slT_len hC.1.2.2.1 (fun _ q => q) hCl ht hz hw (hP.2.1.2 s t hs hT) w
      obtain ⟨M1, e1, F1, C1⟩ := a6 t x hT ht (Wc.inn ht hw) (by omega)
      have hS1 : ∀ a k, SSl a k → 10 ≤ a ∧ a < 89 := fun a k q => by unfold SSl SAg S66 at q; omega
      obtain ⟨hR1, hP1, hCl1⟩ := jn_ref hC hR hP F1 hS1
      have hw1 : Wc (OkF (Inn M1 c)) H.length (hF H) t 0 gN 0 x := hw.imp t ht (fun i z _ _ q => q.ci (Inn.cls F1 (fun a k q => (hS1 _ _ q).1)))
      obtain ⟨-, q2⟩ := rx_length hR1.1 (hP1.ok hCl1) (by omega) hR1.2.2.2.2 1634 x1 x2
      obtain ⟨M2, cr, e2, F2, R2, W2⟩ := (((q2 s w hs hw2 hx1 hx2).2 t x hT hw1) (by omega))
      exact jn_keep hb hm hC hE e1 F1 (fun a k q => by unfold SSl SAg S66 at q; omega) C1 hR1 hP1 e2 F2 (fun a k q => by unfold SSw SSi SNz SSu SSq SSp SR STd STr SBg at q; omega) ((F2.int (by unfold SSw SSi SNz SSu SSq SSp SR STd STr SBg; omega)).trans hR1.2.2.2.2) R2 (by omega) W2 (by omega)
/-- a pair of calls, the reference's only tells -/
def SB0 (a k : Nat) : Prop := (a = 89 ∧ k = 0) ∨ SBg a k
theorem jn_tell {f g : Mem → Option (Int32 × Mem)} {v : Int32} (hb : 1240 * c + 601 * L ≤ 12020 * k + 11160) (hm : MkC k M) (hC : ClA M c b L H gf T ks) (hR : RfA M cR b L H gf T ks (Inn M c)) (hP : JnP (Inn M c) H gf T) (hE : FlE M) (e1 : f M = some (v, M)) (e2 : g M = some (v, M2)) (F2 : Fr SB0 M M2) : Pr2 (Jn (k + 1)) f g M := by
  have hS : ∀ a k, SB0 a k → a = 89 ∧ (k = 0 ∨ k = 48 ∨ k = 49 ∨ k = 50) := fun a k q => by unfold SB0 SBg at q; omega
  obtain ⟨-, d2⟩ := tabR_mv hR.1.2.1 F2 (fun q => by have := hS _ _ q; omega) (fun a k q => by have := hS _ _ q; omega)
  exact jn_keep hb hm hC hE e1 (Fq.refl (S := fun _ _ => False)) (fun a k q => q.elim) hC.1 hR hP e2 F2 (fun a k q => by have := hS _ _ q; omega) ((F2.int (fun q => by have := hS _ _ q; omega)).trans hR.2.2.2.2) (hR.1.w F2 (fun a k q => by have := hS _ _ q; omega)) (Nat.le_refl _) (hR.2.2.2.1.mv F2 (fun a k q => by have := hS _ _ q; omega) (fun i _ => d2 i) (Nat.le_refl _)) (Nat.le_refl _)
theorem j_goalByte (h : Jn k M) (x : Int32) : Pr2 (Jn (k + 1)) (f_X10_goalByte 2047 0 x) (f_X11_goalByte 2047 89 x) M := by
  obtain ⟨c, cR, b, L, H, gf, T, ks, hC, hR, hP, hE, hb, hm⟩ := h
  have hW := hC.1.1
  have ec : f_X10_goalByte (2046 + 1) 0 x M = T_X10_goalByte_0 (fun v M => some (v, M)) none (2046 + 1) 0 x M := rfl
  have er : f_X11_goalByte (2046 + 1) 89 x M = T_X11_goalByte_0 (fun v M => some (v, M)) none (2046 + 1) 89 x M := rfl
  obtain ⟨n, hn⟩ : ∃ n, n = 2046 := ⟨_, rfl⟩
  rw [← hn] at ec er
  have hO2 : fO M 2 1 := ⟨by rw [hW.1]; omega, s_2 hW⟩
  by_cases h3 : 0 ≤ x
  · obtain ⟨q, hq, hx3⟩ := ge_nI h3
    obtain ⟨v, v1, v2, v3, v4⟩ := hC.1.2.2.2.2.1
    have h210 := Inn.m210 hC.1.2.2.1 hP.2.1.1.1.1 hP.2.1.1.2.1
    have y1 := c_byteAt hW hC.1.2.2.1 (n - 6) (r := q) v1 (by rw [v3]; omega) (by omega)
    rw [show n - 6 + 6 = n by omega, v3] at y1
    obtain ⟨u, u1, u2, u3⟩ := hR.1.2.2.2.1
    have F0 : Fr SB0 M (wI M 89 0 0) := Fr.refl.wI (Or.inl ⟨rfl, rfl⟩) _
    have hW0 := F0.Wd hW
    obtain ⟨M1, y2, F1, S1⟩ := TlS.beg hW0 n (q := q) (Or.inl hq)
    have F01 := F0.trans (F1.mono (fun a k q => Or.inr q))
    have hS : ∀ a k, SB0 a k → a = 89 ∧ (k = 0 ∨ k = 48 ∨ k = 49 ∨ k = 50) := fun a k q => by unfold SB0 SBg at q; omega
    have hW1 := F01.Wd hW
    obtain ⟨T1, d1⟩ := tabR_mv hR.1.2.1 F01 (fun q => by have := hS _ _ q; omega) (fun a k q => by have := hS _ _ q; omega)
    have g16 : M1.2.2.1 89 16 = nI u := (F01.int (fun q => by have := hS _ _ q; omega)).trans u2
    have e0 : spB [] ++ fsp gf = fsp gf := rfl
    have hfl := Inn.fl hC.1.2.2.1 hP.2.1.1.1.1
    obtain ⟨M2, y3, F2, S2⟩ := TlS.frm (q := q) 200 (n - 207) u cR M1 [] hW1 T1 u1 (by rw [d1, u3]; exact hP.2.1.1.1.2) S1 (by rw [d1, u3, e0]; have := tcn_le (fsp gf); omega)
    rw [show 200 + 7 + (n - 207) = n by omega] at y3
    rw [d1, u3, e0] at S2
    have ea := S2.ans hq
    have hW2 := F2.Wd hW1
    have h3' : ((0 : Int32) ≤ x) = True := eq_true h3
    refine jn_tell (v := gtN (fsp gf) q) hb hm hC hR hP hE ?_ ?_ (F01.trans (F2.mono (fun a k q => Or.inr (STq_SBg a k q))))
    · have e : f_X10_goalByte (n + 1) 0 x M = some (gtN (fsp gf) q, M) := by
        rw [ec]
        unfold T_X10_goalByte_0
        rw [hx3] at h3' ⊢
        simp (disch := omega) only [h3', ↓reduceIte, ↓gd_pos (fO_0 hW), ↓bnd_of (r_0_2 hW), ↓gd_pos hO2, v2, nI_long, ↓bnd2_of (show cal (n + 1) (fun zz => f_X1_byteAt zz 2 (nI v) (lN q) M) = _ from y1)]
      rw [hn] at e
      exact e
    · have e : f_X11_goalByte (n + 1) 89 x M = some (gtN (fsp gf) q, M2) := by
        rw [er]
        unfold T_X11_goalByte_0
        rw [hx3] at h3' ⊢
        simp (disch := omega) only [h3', ↓reduceIte, ↓gd_pos (fO_R hW), ↓bnd2_of (show cal (n + 1) (fun zz => f_X11_begins0 zz 89 (nI q) (wI M 89 0 0)) = _ from y2), ↓gd_pos (fO_R hW1), g16, ↓bnd2_of (show cal (n + 1) (fun zz => f_X11_tellsFormula zz 89 (nI u) M1) = _ from y3), ↓gd_pos (fO_R hW2), ea]
      rw [hn] at e
      exact e
  · refine jn_ans (v := -3) hb hm hC hR hP hE ?_ ?_
    · have e : f_X10_goalByte (n + 1) 0 x M = some (-3, M) := by
        rw [ec]
        unfold T_X10_goalByte_0
        simp only [h3, ↓reduceIte]
      rw [hn] at e
      exact e
    · have e : f_X11_goalByte (n + 1) 89 x M = some (-3, wI M 89 0 0) := by
        rw [er]
        unfold T_X11_goalByte_0
        simp only [h3, ↓reduceIte, ↓gd_pos (fO_R hW)]
      rw [hn] at e
      exact e
end JS5
