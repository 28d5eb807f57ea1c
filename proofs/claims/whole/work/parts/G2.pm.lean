/-! SPELLING: a term in the class, the loop along the tree -/
def PtE (M : Mem) (q : Nat) (tot : List Nat) : Prop := M.2.2.1 66 4 = (if q < 2147483648 then gtN tot q else -1) ∧ (q = 4294967295 → M.2.2.2.1 66 3 = lN tot.length)
section PM2
variable {M M0 M1 : Mem} {tr c q p pr d r nn n : Nat} {pa x2 : Int32} {l tot : List Nat} {lr : List (Nat × Tm)} {H : List (Nat × Fm)}
theorem ptm_one (hL : LtC M0 tr c lr) (hT : TabC M0 c) (hH : HyC M0 10 c H) (hN : isNm H) (hn : 9 ≤ n) (hx : (pr = 0 → x2 = 1) ∧ (pr ≠ 0 → x2 = 0)) (htot : tot.length + 30 < 576460752303423488) (h2 : at2 M0 p d pa r nn) {ca w : List (List Nat)} (hc : CaC lr pa r d ca) (hd : d < 201) (hp : p < lr.length) (hw : (opl lr p = 1 ∧ ∃ v, NwP H (lbl lr p) v ∧ w = [v]) ∨ (opl lr p ≠ 1 ∧ w = own pr (opl lr p) (lbl lr p) d)) (F : Fr S66 M0 M) (hS : SpS M q l) (hpre : ∃ s, tot = tls l (ca ++ w) ++ s) (hk : ∀ M1, Fr S66 M0 M1 → SpS M1 q (tls l (ca ++ w)) → ∃ M2, lpYt n x2 tr (p + 1) M1 = some ((), M2) ∧ Fr S66 M1 M2 ∧ PtE M2 q tot) : ∃ M2, lpYt n x2 tr p M = some ((), M2) ∧ Fr S66 M M2 ∧ PtE M2 q tot := by
  have hL1 := hL.s6 F
  obtain ⟨s, hs⟩ := hpre
  have hlen : (tls l (ca ++ w)).length + 30 < 576460752303423488 := by
    rw [hs, List.length_append] at htot
    omega
  rw [tls_app] at hlen
  obtain ⟨s1, hs1⟩ := tls_pre w (tls l ca)
  obtain ⟨s2, hs2⟩ := tls_pre ca l
  have hl0 : l.length + 30 < 576460752303423488 := by
    rw [hs1, List.length_append, hs2, List.length_append] at hlen
    omega
  by_cases h4 : M.2.2.1 66 4 = -1
  · obtain ⟨M1, e1, F1, S1⟩ := ptm_A hL1 hS h4 hp (h2.s6 F) hc hd n (by omega) x2 hl0
    have F01 := F.trans F1
    have hL2 := hL.s6 F01
    obtain ⟨T2, d2⟩ := hT.s6 F01
    have hg : M.2.2.1 (tr + 2) p = M1.2.2.1 (tr + 2) p := by
      have hob := hL.2.2.1
      exact (F1.int (by unfold TOb at hob; unfold S66; omega)).symm
    rw [hg] at e1
    obtain ⟨M2, e2, F2, S2⟩ := ptm_B hL2 T2 (hH.s6 F01 d2) hN S1 hp (h2.s6 F01) hd n hn hx hw hlen
    rw [← tls_app] at S2
    obtain ⟨M3, e3, F3, E3⟩ := hk M2 (F01.trans F2) S2
    exact ⟨M3, by rw [e1, e2, e3], (F1.trans F2).trans F3, E3⟩
  · refine ⟨M, ?_, Fr.refl, ?_, ?_⟩
    · have hW := hL1.1
      have hR := hL1.2.2.2
      have hlr := hR.2.1
      have hle : (nI lr.length ≤ nI p) = False := eq_false (by rw [nI_le_ (by omega) (by omega)]; omega)
      have g1 : lpYt n x2 tr p M = _ := ge_X8_putTerm_8 (n + 1) 66 40 x2 tr (nI p) M
      rw [g1]
      unfold T_X8_putTerm_8
      simp (disch := omega) only [↓gd_pos (fOT hW hL1.2.2.1), hR.1, hle, ↓reduceIte, ↓gd_pos (fO66 hW), h4]
    · rw [hS.2.2.1]
      by_cases hq : q < 2147483648
      · rw [if_pos hq, if_pos hq]
        have h3 := hS.2.2.1
        rw [if_pos hq] at h3
        have hlt : q < l.length := Nat.lt_of_not_le (fun w => h4 (h3.trans (gtN_out w)))
        rw [hs, tls_app, hs1, hs2]
        simp only [List.append_assoc]
        exact (gtN_l hlt _).symm
      · rw [if_neg hq, if_neg hq]
    · intro hq
      have h3 := hS.2.2.1
      rw [if_neg (by omega)] at h3
      exact absurd h3 h4
theorem tls_fl (l : List Nat) (a : List (List Nat)) (b : List (List (List Nat))) : tls l (a :: b).flatten = tls (tls l a) b.flatten := by rw [List.flatten_cons, tls_app]
theorem tls_f2 (l : List Nat) (a b : List (List (List Nat))) : tls l (a ++ b).flatten = tls (tls l a.flatten) b.flatten := by rw [List.flatten_append, tls_app]
theorem pre_tr {tot a b : List Nat} {ps : List (List Nat)} (h : ∃ s, tot = tls a ps ++ s) : ∃ s, tot = a ++ s := by
  obtain ⟨s, hs⟩ := h
  obtain ⟨s1, h1⟩ := tls_pre ps a
  exact ⟨s1 ++ s, by rw [hs, h1, List.append_assoc]⟩
set_option maxHeartbeats 1000000 in
theorem ptm_main (hL : LtC M0 tr c lr) (hT : TabC M0 c) (hH : HyC M0 10 c H) (hN : isNm H) (hn : 9 ≤ n) (hx : (pr = 0 → x2 = 1) ∧ (pr ≠ 0 → x2 = 0)) (htot : tot.length + 30 < 576460752303423488) : ∀ t, isT t → ∀ (p d r nn : Nat) (pa : Int32) (A : Nat → Nat) (ca : List (List Nat)) (M : Mem) (l : List Nat), Ly M0 t p d pa r nn A → CaC lr pa r d ca → Sb lr p t → shp H.length t → scp t d → d + sz t ≤ 200 → Fr S66 M0 M → SpS M q l → (∃ s, tot = tls l (nps (nmH H) pr t d ca).flatten ++ s) → (∀ M1, Fr S66 M0 M1 → SpS M1 q (tls l (nps (nmH H) pr t d ca).flatten) → ∃ M2, lpYt n x2 tr (p + sz t) M1 = some ((), M2) ∧ Fr S66 M1 M2 ∧ PtE M2 q tot) → ∃ M2, lpYt n x2 tr p M = some ((), M2) ∧ Fr S66 M M2 ∧ PtE M2 q tot := by
  apply tm_ind
  · intro k p d r nn pa A ca M l hY hc hSb hsh hsc hd F hS hpre hk
    obtain ⟨o1, o2, o3⟩ := opl_of hSb.L
    have e : (nps (nmH H) pr (tL k) d ca).flatten = ca ++ [lvl k] := by
      show ([ca ++ [lvl k]] : List (List (List Nat))).flatten = _
      simp
    rw [e] at hpre hk
    have hsc : k < d := hsc
    rw [sz_L] at hd hk
    exact ptm_one hL hT hH hN hn hx htot hY.1 hc (by omega) o3 (Or.inl ⟨o1, lvl k, Or.inl ⟨k, by omega, o2, rfl⟩, rfl⟩) F hS hpre hk
  · intro k p d r nn pa A ca M l hY hc hSb hsh hsc hd F hS hpre hk
    obtain ⟨o1, o2, o3⟩ := opl_of hSb.H
    have e : (nps (nmH H) pr (tH k) d ca).flatten = ca ++ [nmH H k] := by
      show ([ca ++ [nmH H k]] : List (List (List Nat))).flatten = _
      simp
    rw [e] at hpre hk
    rw [sz_H] at hd hk
    have hY : at2 M0 p d pa r nn := hY
    exact ptm_one hL hT hH hN hn hx htot hY hc (by omega) o3 (Or.inl ⟨o1, nmH H k, Or.inr ⟨k, hsh, o2, rfl⟩, rfl⟩) F hS hpre hk
  · intro o f a hu ha ih p d r nn pa A ca M l hY hc hSb hsh hsc hd F hS hpre hk
    obtain ⟨s1, s2⟩ := hSb.U
    obtain ⟨o1, o2, o3⟩ := opl_of s1
    have o1 : opl lr p = o := o1
    have o2 : lbl lr p = f := o2
    have ho : 2 ≤ o ∧ o ≠ 3 ∧ o ≠ 4 ∧ o ≠ 9 := by unfold uOk tf at hu; omega
    have e : tls l (nps (nmH H) pr (tU o f a) d ca).flatten = tls (tls l (ca ++ own pr o f d)) (nps (nmH H) pr a (d + amN o 0) []).flatten := tls_fl _ _ _
    rw [e] at hpre hk
    rw [sz_U] at hd hk
    have ham : amN o 0 ≤ 1 := by unfold amN; split <;> simp
    have hsc : scp a (d + amN o 0) := hsc
    refine ptm_one hL hT hH hN hn hx htot hY.1 hc (by omega) o3 (Or.inr ⟨by omega, rfl⟩) F hS ?_ ?_
    · rw [o1, o2]; exact pre_tr (b := []) hpre
    · rw [o1, o2]
      intro M1 F1 S1
      refine ih (p + 1) (d + amN o 0) 0 (nn + 1) (nI p) _ [] M1 _ hY.2 (Or.inr ⟨p, o3, rfl, by omega, ?_⟩) s2 hsh hsc (by omega) F1 S1 hpre (fun M2 F2 S2 => ?_)
      · rw [o1]
        by_cases h2 : o = 2
        · exact Or.inr (Or.inl ⟨by rw [h2]; rfl, ho.2.2.2, rfl⟩)
        · exact Or.inl ⟨am_2 h2, rfl⟩
      · obtain ⟨M3, e3, F3, E3⟩ := hk M2 F2 S2
        exact ⟨M3, by rw [show p + 1 + sz a = p + (sz a + 1) by omega]; exact e3, F3, E3⟩
  · intro o a b ho ha hb iha ihb p d r nn pa A ca M l hY hc hSb hsh hsc hd F hS hpre hk
    obtain ⟨s1, s2, s3⟩ := hSb.B
    obtain ⟨o1, o2, o3⟩ := opl_of s1
    have o1 : opl lr p = o := o1
    have o2 : lbl lr p = .null := o2
    have e : tls l (nps (nmH H) pr (tB o a b) d ca).flatten = tls (tls (tls l (ca ++ own pr o .null d)) (nps (nmH H) pr a d []).flatten) (nps (nmH H) pr b d []).flatten := (tls_fl _ _ _).trans (tls_f2 _ _ _)
    rw [e] at hpre hk
    rw [sz_B] at hd hk
    have hsc : scp a d ∧ scp b d := hsc
    have hsh : shp H.length a ∧ shp H.length b := hsh
    have hY : at2 M0 p d pa r nn ∧ Ly M0 a (p + 1) d (nI p) 0 (nn + 1) A ∧ Ly M0 b (p + 1 + sz a) d (nI p) 1 (nn + 1) A := hY
    have ham : ∀ r, amN o r = 0 := fun r => by unfold amN; rw [if_neg (by omega), if_neg (by omega)]
    refine ptm_one hL hT hH hN hn hx htot hY.1 hc (by omega) o3 (Or.inr ⟨by omega, rfl⟩) F hS ?_ ?_
    · rw [o1, o2]; exact pre_tr (b := []) (pre_tr (b := []) hpre)
    · rw [o1, o2]
      intro M1 F1 S1
      refine iha (p + 1) d 0 (nn + 1) (nI p) _ [] M1 _ hY.2.1 (Or.inr ⟨p, o3, rfl, by omega, Or.inl ⟨by rw [o1]; exact ham 0, rfl⟩⟩) s2 hsh.1 hsc.1 (by omega) F1 S1 (pre_tr (b := []) hpre) (fun M2 F2 S2 => ?_)
      refine ihb (p + 1 + sz a) d 1 (nn + 1) (nI p) _ [] M2 _ hY.2.2 (Or.inr ⟨p, o3, rfl, by omega, Or.inl ⟨by rw [o1]; exact ham 1, rfl⟩⟩) s3 hsh.2 hsc.2 (by omega) F2 S2 hpre (fun M3 F3 S3 => ?_)
      obtain ⟨M4, e4, F4, E4⟩ := hk M3 F3 S3
      exact ⟨M4, by rw [show p + 1 + sz a + sz b = p + (sz a + sz b + 1) by omega]; exact e4, F4, E4⟩
  · intro m a b hm ha hb ihm iha ihb p d r nn pa A ca M l hY hc hSb hsh hsc hd F hS hpre hk
    obtain ⟨s1, s2, s3, s4⟩ := hSb.C
    obtain ⟨o1, o2, o3⟩ := opl_of s1
    have o1 : opl lr p = 9 := o1
    have o2 : lbl lr p = .null := o2
    have e : tls l (nps (nmH H) pr (tC m a b) d ca).flatten = tls (tls (tls (tls l (ca ++ own pr 9 .null d)) (nps (nmH H) pr m d []).flatten) (nps (nmH H) pr a (d + 1) [lvl d]).flatten) (nps (nmH H) pr b (d + 1) [lvl d]).flatten := ((tls_fl _ _ _).trans (tls_f2 _ _ _)).trans (tls_f2 _ _ _)
    rw [e] at hpre hk
    rw [sz_C] at hd hk
    have hsc : scp m d ∧ scp a (d + 1) ∧ scp b (d + 1) := hsc
    have hsh : shp H.length m ∧ shp H.length a ∧ shp H.length b := hsh
    obtain ⟨y1, y2, y3, y4⟩ := hY
    have h91 : amN 9 1 = 1 := rfl
    have h92 : amN 9 2 = 1 := rfl
    refine ptm_one hL hT hH hN hn hx htot y1 hc (by omega) o3 (Or.inr ⟨by omega, rfl⟩) F hS ?_ ?_
    · rw [o1, o2]; exact pre_tr (b := []) (pre_tr (b := []) (pre_tr (b := []) hpre))
    · rw [o1, o2]
      intro M1 F1 S1
      refine ihm (p + 1) d 0 (nn + 1) (nI p) _ [] M1 _ y2 (Or.inr ⟨p, o3, rfl, by omega, Or.inl ⟨by rw [o1]; rfl, rfl⟩⟩) s2 hsh.1 hsc.1 (by omega) F1 S1 (pre_tr (b := []) (pre_tr (b := []) hpre)) (fun M2 F2 S2 => ?_)
      refine iha (p + 1 + sz m) (d + 1) 1 (nn + 1) (nI p) _ [lvl d] M2 _ y3 (Or.inr ⟨p, o3, rfl, by omega, Or.inr (Or.inr ⟨by rw [o1]; rfl, o1, by rw [Nat.add_sub_cancel], by omega⟩)⟩) s3 hsh.2.1 hsc.2.1 (by omega) F2 S2 (pre_tr (b := []) hpre) (fun M3 F3 S3 => ?_)
      refine ihb (p + 1 + sz m + sz a) (d + 1) 2 (nn + 1) (nI p) _ [lvl d] M3 _ y4 (Or.inr ⟨p, o3, rfl, by omega, Or.inr (Or.inr ⟨by rw [o1]; rfl, o1, by rw [Nat.add_sub_cancel], by omega⟩)⟩) s4 hsh.2.2 hsc.2.2 (by omega) F3 S3 hpre (fun M4 F4 S4 => ?_)
      obtain ⟨M5, e5, F5, E5⟩ := hk M4 F4 S4
      exact ⟨M5, by rw [show p + 1 + sz m + sz a + sz b = p + (sz m + sz a + sz b + 1) by omega]; exact e5, F5, E5⟩
/-- A TERM or its program, in the class -/
theorem c_putTerm {t : Tm} (ht : isT t) (hL : LtC M tr c (rws t)) (hT : TabC M c) (hH : HyC M 10 c H) (hN : isNm H) {A : Nat → Nat} (hY : Ly M t 0 0 (-1) 0 1 A) (hsh : shp H.length t) (hsc : scp t 0) (hS : SpS M q []) (hx : (pr = 0 → x2 = 1) ∧ (pr ≠ 0 → x2 = 0)) (htot : (tls [] (nps (nmH H) pr t 0 []).flatten).length + 30 < 576460752303423488) (k : Nat) : ∃ M1, f_X8_putTerm (k + 10) 66 40 x2 M = some ((), M1) ∧ Fr S66 M M1 ∧ PtE M1 q (tls [] (nps (nmH H) pr t 0 []).flatten) := by
  have hW := hL.1
  have hR := hL.2.2.2
  have h200 := hR.2.1
  rw [rws_len] at h200
  obtain ⟨n, hn⟩ : ∃ n, n = k + 9 := ⟨_, rfl⟩
  rw [show k + 10 = n + 1 by omega]
  obtain ⟨M1, e1, F1, E1⟩ := ptm_main hL hT hH hN (n := n) (by omega) hx htot t ht 0 0 0 1 (-1) A [] M [] hY (Or.inl ⟨rfl, rfl⟩) Sb.self hsh hsc (by omega) Fr.refl hS ⟨[], by simp⟩ (fun M1 F1 S1 => by
    refine ⟨M1, ?_, Fr.refl, S1.2.2.1, fun _ => S1.2.1⟩
    have hL1 := hL.s6 F1
    have hR1 := hL1.2.2.2
    have g1 : lpYt n x2 tr (0 + sz t) M1 = _ := ge_X8_putTerm_8 (n + 1) 66 40 x2 tr (nI (0 + sz t)) M1
    rw [g1]
    unfold T_X8_putTerm_8
    have hle : (nI (rws t).length ≤ nI (0 + sz t)) = True := eq_true (by rw [rws_len, nI_le_ (by omega) (by omega)]; omega)
    simp (disch := omega) only [↓gd_pos (fOT hL1.1 hL1.2.2.1), hR1.1, hle, ↓reduceIte])
  refine ⟨M1, ?_, F1, E1⟩
  refine (ge_X8_putTerm_0 (n + 1) 66 40 x2 M).trans ?_
  unfold T_X8_putTerm_0
  simp only [↓gd_pos (fO40 hW), ↓bnd_of hL.2.1]
  exact e1
end PM2
