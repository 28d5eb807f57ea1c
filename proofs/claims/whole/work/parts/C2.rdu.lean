/-! A STEP in the class: reduce -/
def SRd (tg a k : Nat) : Prop := SO tg a k ∨ SAg a k ∨ a = 48
section RDU
variable {c sr tg : Nat} {Hl : List (Nat × Fm)} {t : Tm}
theorem TgC.end_ {M : Mem} {l : List (Nat × Tm)} (h : TgC M tg c l) : (l.length ≤ 200 ∧ M.2.2.1 tg 3 = 0 ∧ RowC M tg c l) ∨ (200 < l.length ∧ M.2.2.1 tg 3 = 1) := by
  rcases h with ⟨h1, h2⟩ | ⟨h1, -, h3⟩
  · exact Or.inl ⟨h2.2.1, h1, h2⟩
  · exact Or.inr ⟨h3, h1⟩
theorem rd_42 {M : Mem} (hW : Wd M) (hsr : TOb sr) (htg : TOb tg) (hne : sr ≠ tg) (ht : isT t) (hR : RowC M sr c (rws t)) (hE : Ed M t 0) {A : Nat → Nat} (hL : Ly M t 0 0 (-1) 0 1 A) (hsc : scp t 0) {j e k : Nat} {y : Fm} {s s' : Tm} {X Y : List (Nat × Tm)} (hs : isT s) (hF : Foc s j e t 0 0) (hc : Cn e y k s s') (hk : k ≤ 7) (hX : rws t = X ++ (rws s ++ Y)) (hXl : X.length = j) (h7 : k = 7 → ∃ v, v < c ∧ M.2.2.1 48 j = nI v ∧ dC M v = y) (m : Nat) : ∃ M1, Fq (SO tg) M M1 ∧ (∀ k, 3 ≤ k → M1.2.2.2.2 53 k = M.2.2.2.2 53 k) ∧ (((X ++ (rws s' ++ Y)).length ≤ 200 ∧ lp (st_X7_reduce (m + 4)) (42, [.ref 53, .ref sr, .ref tg, .int (nI j), .int (nI k)], M) = some (nI k, M1) ∧ RowC M1 tg c (X ++ (rws s' ++ Y)) ∧ M1.2.2.1 tg 3 = 0) ∨ (200 < (X ++ (rws s' ++ Y)).length ∧ lp (st_X7_reduce (m + 4)) (42, [.ref 53, .ref sr, .ref tg, .int (nI j), .int (nI k)], M) = some (-4, M1))) := by
  have hl := hR.2.1
  have hS := hF.sb ht Sb.self
  have hle := hS.le
  have hps := sz_pos s hs
  have he := hF.le ht (Nat.le_refl _)
  have hnm : ∀ nd, nd ∈ rws t → nmB nd := scp_nm t ht hsc (by rw [rws_len] at hl; omega)
  obtain ⟨M0, hM0⟩ : ∃ M0, M0 = wR (wR M 53 1 (some sr)) 53 2 (some tg) := ⟨_, rfl⟩
  have F0 : Fq (SO tg) M M0 := by
    rw [hM0]
    exact (Fq.refl.wR (Or.inr ⟨rfl, by omega⟩) _).wR (Or.inr ⟨rfl, by omega⟩) _
  have hW0 := F0.Wd hW
  obtain ⟨q, hq⟩ : ∃ q, q = m + 3 := ⟨_, rfl⟩
  obtain ⟨M1, y1, F1, G1⟩ := c_clear (c := c) hW0 htg q
  have i0 : ∀ a i, M0.2.2.1 a i = M.2.2.1 a i := fun a i => by rw [hM0]
  have d0 : ∀ i, dC M0 i = dC M i := fun i => by rw [hM0]; rfl
  have R0 : RowC M0 sr c (rws t) := hR.mv (i0 _ _) (funext fun i => i0 _ i) (funext fun i => i0 _ i) (fun i _ => d0 i) (Nat.le_refl _)
  have r1 : M0.2.2.2.2 53 1 = some sr := by rw [hM0]; simp [wR, up2_if]
  have r2 : M0.2.2.2.2 53 2 = some tg := by rw [hM0]; simp [wR, up2_if]
  have sep := fun a k (q : SO tg a k) => SO.sep htg hsr (Ne.symm hne) q
  have n42 := fun a k (q : SO tg a k) => SO.n42 htg q
  have dF : ∀ {Ma Mb : Mem}, Fr (SO tg) Ma Mb → dC Mb = dC Ma := fun F => dC_fq F.q (fun k x => by have := x.not_low htg; omega) (fun k x => by have := x.not_low htg; omega) (fun k x => by have := x.not_low htg; omega)
  have P1 : PtS M1 c sr tg (rws t) [] := ⟨⟨F1.Wd hW0, hsr, htg, hne, R0.mv (F1.int (fun x => (sep _ _ x).1 rfl)) (F1.ints (fun k x => (sep _ _ x).2.1 rfl)) (F1.ints (fun k x => (sep _ _ x).2.2 rfl)) (fun i _ => by rw [dF F1]) (Nat.le_refl _), by rw [F1.2.2.1]; exact r2, G1⟩, by rw [F1.2.2.1]; exact r1⟩
  have ii : ∀ {Mb : Mem}, Fr (SO tg) M0 Mb → ∀ a i, 41 ≤ a → a < 50 → Mb.2.2.1 a i = M.2.2.1 a i := fun F a i h1 h2 => (F.int (fun x => by have := n42 _ _ x; omega)).trans (i0 a i)
  obtain ⟨M2, y2, F2, G2⟩ := c_copyPlain hnm (m + 1) (i := 0) (e := j) (by omega) (by omega) P1
  have P2 := P1.add F2 G2
  have F02 := F1.trans F2
  have L2 : Ly M2 t 0 0 (-1) 0 1 A := hL.congr t ht (fun a i h1 h2 _ _ => ii F02 a i (by omega) (by omega))
  have E2 : Ed M2 t 0 := hE.congr t ht (fun i _ _ => ii F02 41 i (by omega) (by omega))
  obtain ⟨pa, r, n, A', L3⟩ := hF.ly ht L2
  obtain ⟨M3, y3, F3, G3⟩ := c_contract hnm m hs hS hc (by rw [rws_len] at hl hle; omega) L3 (hF.ed ht E2) (fun z => by
    obtain ⟨v, v1, v2, v3⟩ := h7 z
    exact ⟨v, v1, (ii F02 48 j (by omega) (by omega)).trans v2, by rw [dF F02, d0]; exact v3⟩) P2
  have P3 := P2.add F3 G3
  have F03 := F02.trans F3
  have y4 := c_endOf P3.1.1 q (i := j) (by omega)
  rw [ii F03 41 j (by omega) (by omega), (hF.ed ht hE).at_ s hs] at y4
  obtain ⟨M4, y5, F4, G4⟩ := c_copyPlain hnm (m + 1) (i := j + sz s) (e := (rws t).length) (Nat.le_refl _) hle P3
  have hN : M3.2.2.1 sr 2 = nI (rws t).length := P3.1.2.2.2.2.1.1
  have hG : X ++ (rws s' ++ Y) = [] ++ List.take (j - 0) (List.drop 0 (rws t)) ++ rws s' ++ List.take ((rws t).length - (j + sz s)) (List.drop (j + sz s) (rws t)) := by
    have a1 : List.take j (rws t) = X := by rw [hX, ← hXl, List.take_append_of_le_length (Nat.le_refl _), List.take_length]
    have a2 : List.drop (j + sz s) (rws t) = Y := by
      rw [hX, ← List.append_assoc]
      rw [List.drop_append_of_le_length (by rw [List.length_append]; unfold sz; omega), List.drop_eq_nil_of_le (by rw [List.length_append]; unfold sz; omega), List.nil_append]
    rw [Nat.sub_zero, List.drop_zero, a1, a2, show (rws t).length - (j + sz s) = Y.length by rw [hX]; simp only [List.length_append]; unfold sz; omega, List.take_length]
    simp
  rw [← hG] at G4
  have F04 := F03.trans F4
  refine ⟨M4, F0.trans F04.q, fun k hk => by rw [F04.2.2.1, hM0]; simp [up2_if, show k ≠ 1 by omega, show k ≠ 2 by omega], ?_⟩
  have hW1 := P1.1.1
  have hW2 := P2.1.1
  have hW3 := P3.1.1
  have hW4 := F4.Wd hW3
  rw [show m + 1 + 2 = q by omega] at y2 y5
  rw [show m + 3 = q by omega] at y3
  have y1' : f_X9_clear q tg (wR (wR M 53 1 (some sr)) 53 2 (some tg)) = some ((), M1) := by rw [← hM0]; exact y1
  have y2' : f_X7_copyPlain q 53 0 (nI j) M1 = some ((), M2) := y2
  rcases G4.end_ with ⟨g1, g2, g3⟩ | ⟨g1, g2⟩
  · refine Or.inl ⟨g1, ?_, g3, g2⟩
    rw [show m + 4 = q + 1 by omega]
    refine (ge_X7_reduce_42 (q + 1) 53 sr tg (nI j) (nI k) M).trans ?_
    unfold T_X7_reduce_42
    simp (disch := omega) only [↓reduceIte, ↓gd_pos (fO_53 hW), ↓gd_pos (fO_T hW htg), ↓bnd2_of (show cal (q + 1) (fun zz => f_X9_clear zz tg (wR (wR M 53 1 (some sr)) 53 2 (some tg))) = _ from y1'), ↓gd_pos (fO_53 hW1), ↓bnd2_of (show cal (q + 1) (fun zz => f_X7_copyPlain zz 53 0 (nI j) M1) = _ from y2'), ↓gd_pos (fO_53 hW2), ↓bnd2_of (show cal (q + 1) (fun zz => f_X7_contract zz 53 (nI j) (nI k) M2) = _ from y3), ↓gd_pos (fO_53 hW3), ↓bnd_of (r_53_0 hW3), ↓gd_pos (fO_40 hW3), ↓bnd2_of (show cal (q + 1) (fun zz => f_X3_endOf zz 40 (nI j) M3) = _ from y4), ↓gd_pos (fO_T hW3 hsr), hN, ↓bnd2_of (show cal (q + 1) (fun zz => f_X7_copyPlain zz 53 (nI (j + sz s)) (nI (rws t).length) M3) = _ from y5), ↓gd_pos (fO_T hW4 htg), g2]
  · refine Or.inr ⟨g1, ?_⟩
    rw [show m + 4 = q + 1 by omega]
    refine (ge_X7_reduce_42 (q + 1) 53 sr tg (nI j) (nI k) M).trans ?_
    unfold T_X7_reduce_42
    simp (disch := omega) only [↓reduceIte, ↓gd_pos (fO_53 hW), ↓gd_pos (fO_T hW htg), ↓bnd2_of (show cal (q + 1) (fun zz => f_X9_clear zz tg (wR (wR M 53 1 (some sr)) 53 2 (some tg))) = _ from y1'), ↓gd_pos (fO_53 hW1), ↓bnd2_of (show cal (q + 1) (fun zz => f_X7_copyPlain zz 53 0 (nI j) M1) = _ from y2'), ↓gd_pos (fO_53 hW2), ↓bnd2_of (show cal (q + 1) (fun zz => f_X7_contract zz 53 (nI j) (nI k) M2) = _ from y3), ↓gd_pos (fO_53 hW3), ↓bnd_of (r_53_0 hW3), ↓gd_pos (fO_40 hW3), ↓bnd2_of (show cal (q + 1) (fun zz => f_X3_endOf zz 40 (nI j) M3) = _ from y4), ↓gd_pos (fO_T hW3 hsr), hN, ↓bnd2_of (show cal (q + 1) (fun zz => f_X7_copyPlain zz 53 (nI (j + sz s)) (nI (rws t).length) M3) = _ from y5), ↓gd_pos (fO_T hW4 htg), g2, show ((1 : Int32) = 0) = False from eq_false (by decide)]
set_option maxHeartbeats 1000000 in
theorem c_reduce {M : Mem} (hW : Wd M) (hsr : TOb sr) (htg : TOb tg) (hne : sr ≠ tg) (ht : isT t) (hR : RowC M sr c (rws t)) (hTb : TabC M c) (hH : HyC M 10 c Hl) {x : Fm} (hw : Wc (Inn M c) Hl.length (hF Hl) t 0 gN 0 x) (m : Nat) : (frx (rws t) (sz t) 0 = none → f_X7_reduce (m + 4) 53 sr tg M = some (0, M)) ∧ ∀ k t', StT Hl.length (hF Hl) t k t' → ∃ M1, Fq (SRd tg) M M1 ∧ (∀ k, 3 ≤ k → M1.2.2.2.2 53 k = M.2.2.2.2 53 k) ∧ ((sz t' ≤ 200 ∧ f_X7_reduce (m + 4) 53 sr tg M = some (nI k, M1) ∧ RowC M1 tg c (rws t') ∧ M1.2.2.1 tg 3 = 0) ∨ (200 < sz t' ∧ f_X7_reduce (m + 4) 53 sr tg M = some (-4, M1))) := by
  obtain ⟨q, hq⟩ : ∃ q, q = m + 3 := ⟨_, rfl⟩
  have hl := hR.2.1
  have y0 := c_firstRedex hW hsr hR (m + 1)
  rw [rws_len, show m + 1 + 2 = q by omega] at y0
  have ee : f_X7_reduce (m + 4) 53 sr tg M = T_X7_reduce_0 (fun c l M => lp (st_X7_reduce (q + 1)) (c, l, M)) (fun v M => some (v, M)) none (q + 1) 53 sr tg M := by rw [show m + 4 = q + 1 by omega]; exact ge_X7_reduce_0 (q + 1) 53 sr tg M
  refine ⟨fun h0 => ?_, fun k t' hst => ?_⟩
  · rw [h0] at y0
    rw [ee]
    unfold T_X7_reduce_0
    have y0' : f_X9_firstRedex q sr M = some (-1, M) := y0
    simp only [↓reduceIte, ↓gd_pos (fO_T hW hsr), ↓bnd2_of (show cal (q + 1) (fun zz => f_X9_firstRedex zz sr M) = _ from y0')]
  · obtain ⟨j, s, e, Gs, y, s', K, x1, h1, h2, h3, h4, h5, h6, h8, h9, h10, h11, rfl⟩ := hst
    cases Wt.fn t ht hw h8
    rw [h1] at y0
    have y0' : f_X9_firstRedex q sr M = some (nI j, M) := y0
    obtain ⟨X, Y, hX, hXl, hK⟩ := h6.2.1
    rw [Nat.zero_add] at hXl
    have hS := h5.sb ht Sb.self
    have hle := hS.le
    have hps := sz_pos s h4
    have y1 := c_redexAt hW hsr hR (m + 2) (i := j) (by omega)
    rw [h2, show m + 2 + 1 = q by omega] at y1
    have hsco := hw.sco hH.2.1 t ht
    obtain ⟨M1, y2, F1, L1, E1, Y1, w1, rf1⟩ := c_arrangeR hW hsr ht hR hsco.1 m
    rw [show m + 3 = q by omega] at y2
    have hW1 := F1.Wd hW
    obtain ⟨T1, d1⟩ := tab_mq hTb F1 (fun a k q => by unfold SAg at q; omega)
    have H1 : HyC M1 10 c Hl := hH.uq F1 (fun a k q => by unfold SAg at q; omega) (fun i _ => d1 i) (Nat.le_refl _)
    have hk7 : k ≤ 7 := by rw [← h2]; exact rdk_le _ _
    by_cases hk : k = 7
    · have w1' : Wt (fun _ f => Inn M1 c f) Hl.length (hF Hl) t 0 gN 0 x := hw.imp t ht (fun i z _ _ ⟨v, v1, v2⟩ => ⟨v, v1, (d1 v).trans v2⟩)
      obtain ⟨c2, M2, B2, B3, res⟩ := c_ask (G := gN) ht L1 T1 H1 E1 Y1 w1 hsco.1 hsco.2 (Or.inr ⟨x, w1'⟩) m
      obtain ⟨rfl, F2⟩ := B3 ⟨x, w1'⟩
      rw [show m + 3 = q by omega] at res
      have hty : ty (hF Hl) t 0 gN 0 = .inr x := ty_Wt t ht hw
      rcases res with ⟨e5, -, g2, -⟩ | ⟨z, g2, wt, y3⟩
      · rw [hty] at g2; cases g2
      · rw [hty] at g2
        cases g2
        have hW2 := F2.Wd hW1
        have wty := h9 _ wt
        obtain ⟨v, v1, v2, v3⟩ := wty.root s h4
        have F2' : Fq (SRd tg) M1 M2 := (F2.mono (fun a k q => Or.inr (Or.inr q.1))).q
        have L2 := B2.lt L1
        obtain ⟨M3, F3, rf3, r3⟩ := rd_42 hW2 hsr htg hne ht L2.2.2.2 (B2.ed ht E1) (B2.ly ht Y1) hsco.1 h4 h5 h11 hk7 hX hXl (fun _ => ⟨v, v1, v2, v3⟩) m
        have F03 : Fq (SRd tg) M M3 := ((F1.mono (fun a k q => Or.inr (Or.inl q))).trans F2').trans (F3.mono (fun a k q => Or.inl q))
        have e1 : f_X7_reduce (m + 4) 53 sr tg M = lp (st_X7_reduce (m + 4)) (42, [.ref 53, .ref sr, .ref tg, .int (nI j), .int (nI k)], M2) := by
          rw [ee, show m + 4 = q + 1 by omega]
          unfold T_X7_reduce_0
          have hk' : (nI k = (7 : Int32)) = True := eq_true (by rw [hk]; rfl)
          simp (disch := omega) only [↓reduceIte, ↓gd_pos (fO_T hW hsr), ↓bnd2_of (show cal (q + 1) (fun zz => f_X9_firstRedex zz sr M) = _ from y0'), nI_ne_m1, ↓bnd2_of (show cal (q + 1) (fun zz => f_X9_redexAt zz sr (nI j) M) = _ from y1), ↓gd_pos (fO_53 hW), ↓bnd_of (r_53_0 hW), ↓gd_pos (fO_40 hW), ↓bnd2_of (show cal (q + 1) (fun zz => f_X3_arrange zz 40 sr M) = _ from y2), hk', ↓gd_pos (fO_53 hW1), ↓bnd_of (r_53_0 hW1), ↓gd_pos (fO_40 hW1), ↓bnd2_of (show cal (q + 1) (fun zz => f_X3_ask zz 40 M1) = _ from y3)]
        refine ⟨M3, F03, fun k hk => (rf3 k hk).trans (by rw [F2.2.2.1]; exact rf1 53 k (by omega)), ?_⟩
        unfold sz
        rw [hK s', e1]
        exact r3
    · obtain ⟨M3, F3, rf3, r3⟩ := rd_42 hW1 hsr htg hne ht L1.2.2.2 E1 Y1 hsco.1 h4 h5 h11 hk7 hX hXl (fun z => absurd z hk) m
      have F03 : Fq (SRd tg) M M3 := (F1.mono (fun a k q => Or.inr (Or.inl q))).trans (F3.mono (fun a k q => Or.inl q))
      have e1 : f_X7_reduce (m + 4) 53 sr tg M = lp (st_X7_reduce (m + 4)) (42, [.ref 53, .ref sr, .ref tg, .int (nI j), .int (nI k)], M1) := by
        rw [ee, show m + 4 = q + 1 by omega]
        unfold T_X7_reduce_0
        have hk' : (nI k = (7 : Int32)) = False := eq_false (fun z => hk ((nI_eq (b := 7) (by omega) (by omega)).mp z))
        simp (disch := omega) only [↓reduceIte, ↓gd_pos (fO_T hW hsr), ↓bnd2_of (show cal (q + 1) (fun zz => f_X9_firstRedex zz sr M) = _ from y0'), nI_ne_m1, ↓bnd2_of (show cal (q + 1) (fun zz => f_X9_redexAt zz sr (nI j) M) = _ from y1), ↓gd_pos (fO_53 hW), ↓bnd_of (r_53_0 hW), ↓gd_pos (fO_40 hW), ↓bnd2_of (show cal (q + 1) (fun zz => f_X3_arrange zz 40 sr M) = _ from y2), hk']
      refine ⟨M3, F03, fun k hk => (rf3 k hk).trans (rf1 53 k (by omega)), ?_⟩
      unfold sz
      rw [hK s', e1]
      exact r3
end RDU
