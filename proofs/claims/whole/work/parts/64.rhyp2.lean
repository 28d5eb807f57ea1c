/-! ONE HYPOTHESIS READ, in the reference, whole -/
section RH2
variable {M : Mem} {b : Nat → Nat} {n : Nat}
def R1End (M : Mem) (k n c : Nat) (H : List (Nat × Fm)) (p nm : Nat) (r : (Nat × Nat) ⊕ (List Nat × Nat)) : Prop := match r with
  | .inl e => ∃ c1 M1, f_X11_readHypothesis (k + 46) 89 M = some ((), M1) ∧ Fr SRh M M1 ∧ M1.2.2.1 89 30 = nI e.1 ∧ M1.2.2.1 89 31 = nI e.2 ∧ (1 ≤ e.1 ∧ e.1 ≤ 4) ∧ c ≤ c1 ∧ c1 ≤ c + 62 ∧ TabR M1 c1 ∧ (∀ i, i < c → dR M1 i = dR M i) ∧ ∃ p', M1.2.2.1 89 29 = nI p' ∧ p' ≤ n + 1
  | .inr q => ∃ c1 M1, f_X11_readHypothesis (k + 46) 89 M = some ((), M1) ∧ Fr SRh M M1 ∧ M1.2.2.1 89 30 = 0 ∧ M1.2.2.1 89 31 = M.2.2.1 89 31 ∧ M1.2.2.1 89 29 = nI q.2 ∧ q.2 ≤ n ∧ p + 1 ≤ q.2 ∧ c ≤ c1 ∧ c1 ≤ c + 62 ∧ TabR M1 c1 ∧ (∀ i, i < c → dR M1 i = dR M i) ∧ HyR M1 35 99 100 101 c1 (H ++ [(nm, hdF q.1)])
set_option maxHeartbeats 8000000 in
theorem rx_readHyp (hW : Wd M) (hX : TxR M b n) (k : Nat) {p : Nat} (hpn : p ≤ n) (h29 : M.2.2.1 89 29 = nI p) (h30 : M.2.2.1 89 30 = 0) (hend : tq b n p ≠ n) {c : Nat} (hT : TabR M c) {H : List (Nat × Fm)} (hH : HyR M 35 99 100 101 c H) (hroom : c + 100 ≤ 16384) : R1End M k n c H p (nmAt b n p) (hy1 b n p (H.map Prod.fst)) := by
  have h6 := hX.2.1
  have hle := tq_le b n p hpn
  have hH6 := hH.2.1
  obtain ⟨M1, aF, a29, nA, nB⟩ := rx_nameHere hW hX (k + 40) h29 hpn
  have hW1 := aF.Wd hW
  have hX1 := hX.fr aF (by simp [SP]) (by simp [SP])
  have a30 : M1.2.2.1 89 30 = 0 := (aF.int (by simp [SP])).trans h30
  have a31 : M1.2.2.1 89 31 = M.2.2.1 89 31 := aF.int (by simp [SP])
  obtain ⟨hT1, hd1⟩ := hT.fr aF (by simp [SP]) (by simp [SP]) (by simp [SP]) (by simp [SP]) (by simp [SP]) (by simp [SP])
  have hH1 : HyR M1 35 99 100 101 c H := hH.fr (aF.int (by simp [SP])) (aF.ints (by simp [SP])) (aF.ints (by simp [SP])) (aF.ints (by simp [SP])) (Nat.le_refl _) (fun i _ => hd1 i)
  have hbq := hX1.2.2 (tq b n p) (by omega)
  have v600 : vp_in (nI (tq b n p)) 600 := vp_nI (by omega) (by omega)
  have l120 : (sb (b (tq b n p)) = 120) = (b (tq b n p) = 120) := propext (sb_eq (y := 120) hbq.1 (by omega))
  -- what is told already ends it
  have ends : ∀ (x1 x2 : Int32) (M' : Mem), Wd M' → M'.2.2.1 89 35 = nI H.length → ¬ M'.2.2.1 89 30 = 0 → lp (st_X11_readHypothesis (k + 46)) (105, [.ref 89, .int x1, .int x2], M') = some ((), M') := by
    intro x1 x2 M' hW' h35 hne
    have ef := (rx_fails hW' (k + 45) 4 x2).2 hne
    refine (ge_X11_readHypothesis_105 (k + 46) 89 _ _ M').trans ?_
    simp (disch := omega) only [T_X11_readHypothesis_105, W_89 hW', gd_true, fO, Nat.reduceLT, and_self, h35, show (6 : Int32) = nI 6 from rfl, nI_eq_, cal_s, ef, bnd2_s, hne, if_false, ite_self]
  unfold hy1
  by_cases hN : isN b n p
  · rw [itc_pos hN]
    have eN := nA hN
    have hok := hN.ok
    have hnl := nmc_lt hok
    have hN1 := hN.1
    have hN4 := hN.2.1
    have hlet : ∀ i, i < te b n p - tq b n p → isLt (b (tq b n p + i)) := hok.2.2
    have hcne : (nI (te b n p - tq b n p) = 0) = False := eq_false (nI_ne0 (by omega) (by omega))
    have hle1 : (nI (te b n p - tq b n p) ≤ (1 : Int32)) = (te b n p - tq b n p ≤ 1) := nI_le_ (b := 1) (by omega) (by omega)
    obtain ⟨u1, u2, u3⟩ := rh_45 hW1 hX1 (k + 45) a29 (c := te b n p - tq b n p) (by omega) hlet hN4 hH1 (nI (tq b n p)) H.length 0 (by omega)
    have s45 : f_X11_readHypothesis (k + 46) 89 M = lp (st_X11_readHypothesis (k + 46)) (45, [.ref 89, .int (nI (te b n p - tq b n p)), .int (nI (tq b n p)), .int (if b (tq b n p) = 120 ∧ 1 < te b n p - tq b n p then 1 else 0), .int (nI 0)], M1) := by
      refine (ge_X11_readHypothesis_0 (k + 46) 89 M).trans ?_
      simp only [T_X11_readHypothesis_0, W_89 hW, W_89 hW1, gd_true, fO, Nat.reduceLT, and_self, cal_s, eN, bnd2_s, hcne, if_false, a29]
      refine (ge_X11_readHypothesis_20 (k + 46) 89 _ _ M1).trans ?_
      simp (disch := omega) only [T_X11_readHypothesis_20, W_89 hW1, gd_true, fO, fA, ex_in, Nat.reduceLT, true_and, and_self, bnd_s, v600, nI_z, hbq.2, l120, hle1]
      by_cases q1 : b (tq b n p) = 120
      · rw [if_pos q1]
        by_cases q2 : te b n p - tq b n p ≤ 1
        · rw [if_pos q2, if_neg (fun q => by have := q.2; omega)]
          rfl
        · rw [if_neg q2, if_pos ⟨q1, by omega⟩]
          rfl
      · rw [if_neg q1, if_neg (fun q => q1 q.1)]
        rfl
    have e45 : ∀ x3 : Int32, lp (st_X11_readHypothesis (k + 46)) (45, [.ref 89, .int (nI (te b n p - tq b n p)), .int (nI (tq b n p)), .int x3, .int (nI H.length)], M1) = if x3 = 0 then lp (st_X11_readHypothesis (k + 46)) (105, [.ref 89, .int (nI (te b n p - tq b n p)), .int (nI (tq b n p))], M1) else lp (st_X11_readHypothesis (k + 46)) (105, [.ref 89, .int (nI (te b n p - tq b n p)), .int (nI (tq b n p))], wI (wI M1 89 30 2) 89 31 (nI (tq b n p))) := by
      intro x3
      have ef := (rx_fails hW1 (k + 45) 2 (nI (tq b n p))).1 a30
      refine (ge_X11_readHypothesis_45 (k + 46) 89 _ _ _ _ M1).trans ?_
      simp (disch := omega) only [T_X11_readHypothesis_45, W_89 hW1, gd_true, fO, Nat.reduceLT, and_self, hH1.1, nI_le_, Nat.le_refl, if_true, a30, cal_s, ef, bnd2_s]
    have told : f_X11_readHypothesis (k + 46) 89 M = lp (st_X11_readHypothesis (k + 46)) (45, [.ref 89, .int (nI (te b n p - tq b n p)), .int (nI (tq b n p)), .int 1, .int (nI H.length)], M1) → R1End M k n c H p (nmAt b n p) (.inl (2, tq b n p)) := by
      intro e
      refine ⟨c, wI (wI M1 89 30 2) 89 31 (nI (tq b n p)), ?_, ((aF.mono SP_SRh).wI (by simp [SRh, SRR]) _).wI (by simp [SRh, SRR]) _, rfl, rfl, ⟨Nat.le_of_ble_eq_true rfl, Nat.le_of_ble_eq_true rfl⟩, Nat.le_refl _, by omega, (hT1 : TabR _ c), fun i _ => hd1 i, tq b n p, a29, by omega⟩
      rw [e, e45, if_neg (by decide)]
      exact ends _ _ _ ((hW1.wI _ _ _).wI _ _ _) hH1.1 (by show ¬ (2 : Int32) = 0; decide)
    by_cases hx : b (tq b n p) = 120 ∧ 1 < te b n p - tq b n p
    · rw [itc_pos (Or.inl hx)]
      exact told (by rw [s45, if_pos hx]; exact u1)
    · by_cases hd : nmAt b n p ∈ H.map Prod.fst
      · rw [itc_pos (Or.inr hd)]
        obtain ⟨i, hi, g1, -⟩ := first_of hd
        exact told (by rw [s45, if_neg hx]; exact u2 ⟨by omega, i, Nat.zero_le _, hi, g1⟩)
      · rw [itc_neg (fun q => q.elim hx hd)]
        have e0 := u3 (fun r => by
          obtain ⟨-, u, -, hu, e⟩ := r
          exact none_of hd u hu e)
        have s105 : f_X11_readHypothesis (k + 46) 89 M = lp (st_X11_readHypothesis (k + 46)) (105, [.ref 89, .int (nI (te b n p - tq b n p)), .int (nI (tq b n p))], M1) := by
          rw [s45, if_neg hx]
          exact e0.trans (by rw [e45, if_pos rfl])
        clear e0 u1 u2 u3
        by_cases hlen : H.length < 6
        · rw [if_pos (show (H.map Prod.fst).length < 6 by simpa using hlen)]
          have s131 : f_X11_readHypothesis (k + 46) 89 M = lp (st_X11_readHypothesis (k + 46)) (131, [.ref 89, .int (nI (te b n p - tq b n p)), .int (nI (tq b n p)), .int (nI 0)], M1) := by
            rw [s105]
            have hne6 : ¬ H.length = 6 := by omega
            refine (ge_X11_readHypothesis_105 (k + 46) 89 _ _ M1).trans ?_
            simp (disch := omega) only [T_X11_readHypothesis_105, W_89 hW1, gd_true, fO, Nat.reduceLT, and_self, hH1.1, show (6 : Int32) = nI 6 from rfl, nI_eq_, hne6, if_false, a30, if_true]
            rfl
          obtain ⟨M2, m1, mF, mU⟩ := rh_131 hW1 hX1 (k + 46) (q := tq b n p) (c := te b n p - tq b n p) (m := H.length) (by omega) hlen hN4 hH1.1 hlet 4 0 (by omega) M1 Fr.refl (fun u hu => by omega)
          have hW2 := mF.Wd hW1
          -- the length kept, the place moved on
          generalize hM3 : wI (wI M2 100 H.length (nI (te b n p - tq b n p))) 89 29 (nI (te b n p)) = M3
          have m29 : M2.2.2.1 89 29 = nI (tq b n p) := (mF.int (by omega)).trans a29
          have m35 : M2.2.2.1 89 35 = nI H.length := (mF.int (by omega)).trans hH1.1
          have F3 : Fr SRh M M3 := by
            rw [← hM3]
            exact (((aF.mono SP_SRh).trans (mF.mono (T := SRh) (fun a j h => Or.inr (Or.inl h.1)))).wI (by simp [SRh]) _).wI (by simp [SRh, SRR]) _
          have hW3 := F3.Wd hW
          have c30 : M3.2.2.1 89 30 = 0 := by rw [← hM3]; exact (mF.int (by omega)).trans a30
          have c31 : M3.2.2.1 89 31 = M.2.2.1 89 31 := by rw [← hM3]; exact (mF.int (by omega)).trans a31
          have c29 : M3.2.2.1 89 29 = nI (te b n p) := by rw [← hM3]; rfl
          have c35 : M3.2.2.1 89 35 = nI H.length := by rw [← hM3]; exact m35
          have hX3 : TxR M3 b n := hX.fr F3 (by simp [SRh, SRR]) (by simp [SRh, SRR])
          obtain ⟨hT2, hd2⟩ := hT1.fr mF (by omega) (by omega) (by omega) (by omega) (by omega) (by omega)
          have hT3 : TabR M3 c ∧ ∀ i, dR M3 i = dR M i := by
            rw [← hM3]
            exact ⟨hT2, fun i => (hd2 i).trans (hd1 i)⟩
          have n99 : ∀ u, u < te b n p - tq b n p → M3.2.2.1 99 (4 * H.length + u) = nI (b (tq b n p + u)) := by rw [← hM3]; exact mU
          have n100 : M3.2.2.1 100 H.length = nI (te b n p - tq b n p) := by rw [← hM3]; simp [up2_if]
          have hH3 : HyR M3 35 99 100 101 c H := by
            refine ⟨c35, hH6, fun j hj => ?_⟩
            obtain ⟨⟨f, d, y1, y2, y3, y4⟩, v, z1, z2, z3⟩ := hH1.2.2 j hj
            refine ⟨⟨f, d, y1, y2, ?_, fun i hi => ?_⟩, v, z1, ?_, ?_⟩
            · rw [← hM3]
              have ne : ¬ j = H.length := by omega
              simp only [up2_if, Nat.reduceEqDiff, false_and, if_false, true_and, ne]
              rw [mF.int (by omega)]
              exact y3
            · rw [← hM3]
              show M2.2.2.1 99 (4 * j + i) = _
              have := y1.2.1
              rw [mF.int (by omega)]
              exact y4 i hi
            · rw [← hM3]
              show M2.2.2.1 101 j = _
              rw [mF.int (by omega)]
              exact z2
            · rw [hT3.2, ← hd1]
              exact z3
          have hr := rrf_main (b := b) (n := n) 30 (k + 44) 0 (te b n p) c (wI M3 89 34 0) (by omega) (by omega) hle.2.2.2 (hW3.wI _ _ _) hX3 c29 c30 rfl hT3.1 (by omega)
          have hfr : ∀ v M', f_X11_readFormula (k + 44) 89 (wI M3 89 34 0) = some (v, M') → f_X11_formulaRead (k + 45) 89 M3 = some (v, M') := by
            intro v M' h
            unfold f_X11_formulaRead b_X11_formulaRead
            simp only [T_X11_formulaRead_0, W_89 hW3, gd_true, fO, Nat.reduceLT, and_self, cal_s, h, bnd2_s]
          have F4 : Fr SRh M (wI M3 89 34 0) := F3.wI (by simp [SRh, SRR]) _
          have q35 : vp_in (nI H.length) 6 := vp_nI hlen (by omega)
          have e29 : wI (wI M2 100 H.length (nI (te b n p - tq b n p))) 89 29 (nI (tq b n p + (te b n p - tq b n p))) = M3 := by
            rw [← hM3, show tq b n p + (te b n p - tq b n p) = te b n p by omega]
          have j238 : ∀ (M' : Mem) (p' : Nat), Wd M' → M'.2.2.1 89 29 = nI p' → M'.2.2.1 89 35 = nI H.length → lp (st_X11_readHypothesis (k + 46)) (238, [.ref 89], M') = some ((), wI (wI M' 89 29 (nI (p' + 1))) 89 35 (nI (H.length + 1))) := by
            intro M' p' hW' h29' h35'
            refine (ge_X11_readHypothesis_238 (k + 46) 89 M').trans ?_
            simp only [T_X11_readHypothesis_238, W_89 hW', gd_true, fO, Nat.reduceLT, and_self, up2_if, Nat.reduceEqDiff, and_false, if_false, h29', h35', nI_1]
          -- behind the formula: blanks, the semicolon
          have rest : ∀ (v : Int32) (M5 : Mem) (p' : Nat), f_X11_readFormula (k + 44) 89 (wI M3 89 34 0) = some (v, M5) → Fr SRR (wI M3 89 34 0) M5 → M5.2.2.1 89 29 = nI p' → p' ≤ n → ∃ M6, Fr SP (wI M5 101 H.length v) M6 ∧ M6.2.2.1 89 29 = nI (tq b n p') ∧ f_X11_readHypothesis (k + 46) 89 M = if M6.2.2.1 89 30 = 0 then bnd2 (f_X11_peek (k + 45) 89 M6) none (fun v30 M31 => if v30 = 59 then lp (st_X11_readHypothesis (k + 46)) (238, [.ref 89], M31) else gd (fO M31 89 11) none (bnd2 (f_X11_fails (k + 45) 89 1 (M31.2.2.1 89 29) M31) none (fun _ M38 => lp (st_X11_readHypothesis (k + 46)) (238, [.ref 89], M38)))) else lp (st_X11_readHypothesis (k + 46)) (238, [.ref 89], M6) := by
            intro v M5 p' e5 F5 h29' hp'
            have hW5 := F5.Wd (hW3.wI _ _ _)
            have hX5 := (show TxR (wI M3 89 34 0) b n from hX3).fr F5 (by simp [SRR]) (by simp [SRR])
            obtain ⟨M6, y1, y2, y3⟩ := rx_blanks (M := wI M5 101 H.length v) (hW5.wI _ _ _) (show TxR (wI M5 101 H.length v) b n from hX5) (k + 44) (p := p') h29' hp'
            have hW6 := y2.Wd (hW5.wI _ _ _)
            refine ⟨M6, y2, y3, ?_⟩
            rw [s131, m1]
            refine (ge_X11_readHypothesis_131 (k + 46) 89 _ _ _ M2).trans ?_
            have h35' : M3.2.2.1 89 35 = nI H.length := c35
            simp (disch := omega) only [T_X11_readHypothesis_131, show ((4 : Int32) ≤ nI 4) = True from eq_true (by decide), if_true, W_89 hW2, W_89 hW5, W_89 hW6, gd_true, fO, fA, ex_in, Nat.reduceLT, true_and, and_self, bnd_s, m35, q35, nI_z, up2_if, Nat.reduceEqDiff, and_false, false_and, if_false, m29, nI_add, e29, cal_s, hfr v M5 e5, bnd2_s, y1]
          cases hs : scan b n 30 (te b n p) 1 with
          | inl e =>
            rw [hs] at hr
            obtain ⟨v, M5, c1, x1, x2, x3, x4, x5, x6, x7, x8, x9⟩ := hr
            have hkd := scan_kd hs
            have hpl := scan_pl hle.2.2.2 hs
            obtain ⟨M6, y1, y2, y3⟩ := rest 0 M5 e.2 x1 x2 x9 hpl
            have hW5 := x2.Wd (hW3.wI _ _ _)
            have hW6 := y1.Wd (hW5.wI _ _ _)
            have g30 : M6.2.2.1 89 30 = nI e.1 := (y1.int (by simp [SP])).trans x3
            have g35 : M6.2.2.1 89 35 = nI H.length := (y1.int (by simp [SP])).trans ((x2.int (by simp [SRR])).trans c35)
            have hne : ¬ M6.2.2.1 89 30 = 0 := by rw [g30]; exact nI_ne0 (by omega) (by omega)
            have hT5 : TabR (wI M5 101 H.length 0) c1 := x5
            obtain ⟨t1, t2⟩ := hT5.fr y1 (by simp [SP]) (by simp [SP]) (by simp [SP]) (by simp [SP]) (by simp [SP]) (by simp [SP])
            refine ⟨c1, wI (wI M6 89 29 (nI (tq b n e.2 + 1))) 89 35 (nI (H.length + 1)), by rw [y3, if_neg hne]; exact j238 M6 _ hW6 y2 g35, ((((F4.trans (x2.mono SRR_SRh)).wI (a := 101) (k := H.length) (by simp [SRh]) _).trans (y1.mono SP_SRh)).wI (by simp [SRh, SRR]) _).wI (by simp [SRh]) _, g30, (y1.int (a := 89) (k := 31) (by simp [SP])).trans x4, by omega, x6, by omega, (t1 : TabR _ c1), fun i hi => (t2 i).trans ((x8 i hi).trans (hT3.2 i)), tq b n e.2 + 1, rfl, by have := (tq_le b n e.2 hpl).2.1; omega⟩
          | inr q =>
            rw [hs] at hr
            obtain ⟨f, M5, c1, x1, x2, x3, x4, x5, x6, x7, x8, x9, x10, x11, x12⟩ := hr
            have hchk := scan_chk (l := q.1) (q := q.2) hle.2.2.2 hs
            have hlen2 := scan_len (l := q.1) (q := q.2) hs
            have hby := scan_bytes (l := q.1) (q := q.2) hle.2.2.2 hs
            have hl1 := ev_len hchk.1
            have hle2 := tq_le b n q.2 hchk.2
            obtain ⟨M6, y1, y2, y3⟩ := rest (nI f) M5 q.2 x1 x2 x5 hchk.2
            have hW5 := x2.Wd (hW3.wI _ _ _)
            have hX5 := (show TxR (wI M3 89 34 0) b n from hX3).fr x2 (by simp [SRR]) (by simp [SRR])
            have hW6 := y1.Wd (hW5.wI _ _ _)
            have hX6 := (show TxR (wI M5 101 H.length (nI f)) b n from hX5).fr y1 (by simp [SP]) (by simp [SP])
            have g30 : M6.2.2.1 89 30 = 0 := (y1.int (by simp [SP])).trans x3
            have g31 : M6.2.2.1 89 31 = M.2.2.1 89 31 := (y1.int (by simp [SP])).trans (x4.trans c31)
            have g35 : M6.2.2.1 89 35 = nI H.length := (y1.int (by simp [SP])).trans ((x2.int (by simp [SRR])).trans c35)
            have hT5 : TabR (wI M5 101 H.length (nI f)) c1 := x7
            obtain ⟨t1, t2⟩ := hT5.fr y1 (by simp [SP]) (by simp [SP]) (by simp [SP]) (by simp [SP]) (by simp [SP]) (by simp [SP])
            have F6 : Fr SRh M M6 := ((F4.trans (x2.mono SRR_SRh)).wI (a := 101) (k := H.length) (by simp [SRh]) _).trans (y1.mono SP_SRh)
            have dd : ∀ i, i < c → dR M6 i = dR M i := fun i hi => (t2 i).trans ((x10 i hi).trans (hT3.2 i))
            obtain ⟨pA, pB⟩ := rx_peek hW6 hX6 (k + 45) y2 (by omega)
            have hc62 : c1 ≤ c + 62 := by have : c1 ≤ c + 2 * q.1.length := x9; omega
            show R1End M k n c H p (nmAt b n p) (if tq b n q.2 < n ∧ b (tq b n q.2) = 59 then .inr (q.1, tq b n q.2 + 1) else .inl (1, tq b n q.2))
            by_cases hsemi : tq b n q.2 < n ∧ b (tq b n q.2) = 59
            · rw [if_pos hsemi]
              have ep := pA hsemi.1
              rw [hsemi.2] at ep
              refine ⟨c1, wI (wI M6 89 29 (nI (tq b n q.2 + 1))) 89 35 (nI (H.length + 1)), by rw [y3, if_pos g30, ep, bnd2_s, if_pos (show nI 59 = (59 : Int32) from rfl)]; exact j238 M6 _ hW6 y2 g35, (F6.wI (by simp [SRh, SRR]) _).wI (by simp [SRh]) _, g30, g31, rfl, by show tq b n q.2 + 1 ≤ n; omega, by show p + 1 ≤ tq b n q.2 + 1; omega, x8, hc62, (t1 : TabR _ c1), dd, ?_⟩
              have i99 : M6.2.2.1 99 = M3.2.2.1 99 := (y1.ints (by simp [SP])).trans (x2.ints (by simp [SRR]))
              have i100 : M6.2.2.1 100 = M3.2.2.1 100 := (y1.ints (by simp [SP])).trans (x2.ints (by simp [SRR]))
              have i101 : ∀ j, M6.2.2.1 101 j = if j = H.length then nI f else M3.2.2.1 101 j := fun j => by
                rw [y1.int (by simp [SP])]
                simp only [up2_if, true_and]
                by_cases e : j = H.length
                · rw [if_pos e, if_pos e]
                · rw [if_neg e, if_neg e]
                  exact x2.int (by simp [SRR])
              refine ⟨by simp [up2_if], by simp; omega, fun j hj => ?_⟩
              by_cases ej : j < H.length
              · obtain ⟨gN, v, z1, z2, z3⟩ := hH3.2.2 j ej
                rw [List.getElem_append_left ej]
                refine ⟨gN.fr i99 i100, v, by omega, ?_, ?_⟩
                · show M6.2.2.1 101 j = _
                  rw [i101, if_neg (by omega)]
                  exact z2
                · show dR M6 v = _
                  rw [dd v z1, ← hT3.2 v]
                  exact z3
              · have hjl : j = H.length := by simp at hj; omega
                subst hjl
                rw [List.getElem_append_right (Nat.le_refl _)]
                simp only [Nat.sub_self, List.getElem_cons_zero]
                refine ⟨⟨fun i => b (tq b n p + i), te b n p - tq b n p, hok, rfl, ?_, fun i hi => ?_⟩, f, x11, ?_, ?_⟩
                · show M6.2.2.1 100 H.length = _
                  rw [i100]
                  exact n100
                · show M6.2.2.1 99 (4 * H.length + i) = _
                  rw [i99]
                  exact n99 i hi
                · show M6.2.2.1 101 H.length = _
                  rw [i101, if_pos rfl]
                · show dR M6 f = hdF q.1
                  rw [t2 f]
                  exact (hdF_is x12).symm
            · rw [if_neg hsemi]
              have ef := (rx_fails hW6 (k + 45) 1 (nI (tq b n q.2))).1 g30
              have hW7 : Wd (wI (wI M6 89 30 1) 89 31 (nI (tq b n q.2))) := (hW6.wI _ _ _).wI _ _ _
              have hfo : fO M6 89 11 := ⟨by rw [hW6.1]; decide, s_89 hW6⟩
              have e7 : f_X11_readHypothesis (k + 46) 89 M = lp (st_X11_readHypothesis (k + 46)) (238, [.ref 89], wI (wI M6 89 30 1) 89 31 (nI (tq b n q.2))) := by
                rw [y3, if_pos g30]
                by_cases hn2 : tq b n q.2 < n
                · have hb2 := (hX6.2.2 (tq b n q.2) hn2).1
                  rw [pA hn2, bnd2_s, if_neg (show ¬ nI (b (tq b n q.2)) = (59 : Int32) from fun x => hsemi ⟨hn2, (nI_eq (b := 59) (by omega) (by omega)).mp x⟩), gd_pos hfo, y2, ef, bnd2_s]
                · rw [pB (by omega), bnd2_s, if_neg (by decide), gd_pos hfo, y2, ef, bnd2_s]
              refine ⟨c1, wI (wI (wI (wI M6 89 30 1) 89 31 (nI (tq b n q.2))) 89 29 (nI (tq b n q.2 + 1))) 89 35 (nI (H.length + 1)), e7.trans (j238 _ _ hW7 y2 g35), (((F6.wI (by simp [SRh, SRR]) _).wI (by simp [SRh, SRR]) _).wI (by simp [SRh, SRR]) _).wI (by simp [SRh]) _, rfl, rfl, ⟨Nat.le_of_ble_eq_true rfl, Nat.le_of_ble_eq_true rfl⟩, x8, hc62, (t1 : TabR _ c1), dd, tq b n q.2 + 1, rfl, by omega⟩
        · rw [if_neg (show ¬ (H.map Prod.fst).length < 6 by simpa using hlen)]
          have e6 : H.length = 6 := by omega
          refine ⟨c, wI (wI M1 89 30 4) 89 31 (nI (tq b n p)), ?_, ((aF.mono SP_SRh).wI (by simp [SRh, SRR]) _).wI (by simp [SRh, SRR]) _, rfl, rfl, ⟨Nat.le_of_ble_eq_true rfl, Nat.le_of_ble_eq_true rfl⟩, Nat.le_refl _, by omega, (hT1 : TabR _ c), fun i _ => hd1 i, tq b n p, a29, by omega⟩
          rw [s105]
          have ef := (rx_fails hW1 (k + 45) 4 (nI (tq b n p))).1 a30
          refine (ge_X11_readHypothesis_105 (k + 46) 89 _ _ M1).trans ?_
          simp (disch := omega) only [T_X11_readHypothesis_105, W_89 hW1, gd_true, fO, Nat.reduceLT, and_self, hH1.1, show (6 : Int32) = nI 6 from rfl, nI_eq_, e6, if_true, cal_s, ef, bnd2_s, up2_if, Nat.reduceEqDiff, and_false, if_false, show ((4 : Int32) = 0) = False from eq_false (by decide)]
  · rw [itc_neg hN]
    have eN := nB hN
    have ef := (rx_fails hW1 (k + 45) 1 (nI (tq b n p))).1 a30
    have hWf : Wd (wI (wI M1 89 30 1) 89 31 (nI (tq b n p))) := (hW1.wI _ _ _).wI _ _ _
    have hXf : TxR (wI (wI M1 89 30 1) 89 31 (nI (tq b n p))) b n := hX1
    have hHf : HyR (wI (wI M1 89 30 1) 89 31 (nI (tq b n p))) 35 99 100 101 c H := hH1
    obtain ⟨u1, u2, u3⟩ := rh_45 hWf hXf (k + 45) (q := tq b n p) a29 (c := 0) (by omega) (fun i hi => by omega) (by omega) hHf (nI (tq b n p)) H.length 0 (by omega)
    have e0 := u3 (fun r => by have := r.1; omega)
    refine ⟨c, wI (wI M1 89 30 1) 89 31 (nI (tq b n p)), ?_, ((aF.mono SP_SRh).wI (by simp [SRh, SRR]) _).wI (by simp [SRh, SRR]) _, rfl, rfl, ⟨Nat.le_of_ble_eq_true rfl, Nat.le_of_ble_eq_true rfl⟩, Nat.le_refl _, by omega, (hT1 : TabR _ c), fun i _ => hd1 i, tq b n p, a29, by omega⟩
    refine (ge_X11_readHypothesis_0 (k + 46) 89 M).trans ?_
    simp only [T_X11_readHypothesis_0, W_89 hW, W_89 hW1, gd_true, fO, Nat.reduceLT, and_self, cal_s, eN, bnd2_s, if_true, a29, ef]
    refine (ge_X11_readHypothesis_20 (k + 46) 89 _ _ _).trans ?_
    simp (disch := omega) only [T_X11_readHypothesis_20, W_89 hW1, gd_true, fO, fA, ex_in, Nat.reduceLT, true_and, and_self, bnd_s, v600, show ((0 : Int32) ≤ 1) = True from eq_true (by decide), if_true, ite_self]
    refine Eq.trans (show _ = lp (st_X11_readHypothesis (k + 46)) (45, [.ref 89, .int (nI 0), .int (nI (tq b n p)), .int 0, .int (nI 0)], wI (wI M1 89 30 1) 89 31 (nI (tq b n p))) from rfl) (e0.trans ?_)
    refine (ge_X11_readHypothesis_45 (k + 46) 89 _ _ _ _ _).trans ?_
    simp (disch := omega) only [T_X11_readHypothesis_45, W_89 hW1, gd_true, fO, Nat.reduceLT, and_self, up2_if, Nat.reduceEqDiff, and_false, if_false, hH1.1, nI_le_, Nat.le_refl, if_true, show ((1 : Int32) = 0) = False from eq_false (by decide)]
    exact ends _ _ _ hWf hH1.1 (by show ¬ (1 : Int32) = 0; decide)
end RH2
