/-! A STEP in the class: a redex, and all of it -/
section CTR
variable {c sr tg : Nat} {ls : List (Nat × Tm)}
theorem seg_of {X Y Z : List (Nat × Tm)} {I : Nat} (h : ls = X ++ (Y ++ Z)) (hx : X.length = I) : (ls.drop I).take Y.length = Y := by
  subst h hx
  rw [List.drop_append_of_le_length (Nat.le_refl _), List.drop_length, List.nil_append]
  exact (List.take_append_of_le_length (Nat.le_refl _)).trans (List.take_length ..)
set_option maxHeartbeats 1000000 in
theorem c_contract (hnm : ∀ nd, nd ∈ ls → nmB nd) (m : Nat) {j e k : Nat} {y : Fm} {s s' : Tm} (hs : isT s) (hS : Sb ls j s) (hc : Cn e y k s s') (he : e + sz s < 1000) {M : Mem} {l : List (Nat × Tm)} {pa : Int32} {r n : Nat} {A : Nat → Nat} (hL : Ly M s j e pa r n A) (hEd : Ed M s j) (h7 : k = 7 → ∃ v, v < c ∧ M.2.2.1 48 j = nI v ∧ dC M v = y) (h : PtS M c sr tg ls l) : ∃ M1, f_X7_contract (m + 3) 53 (nI j) (nI k) M = some ((), M1) ∧ Fr (SO tg) M M1 ∧ TgC M1 tg c (l ++ rws s') := by
  have hl := h.1.2.2.2.2.1.2.1
  have hW := h.1.1
  have htg := h.1.2.2.1
  have hle := hS.le
  have h42 : M.2.2.1 42 j = nI e := (hL.at_ s hs).1
  obtain ⟨q, hq⟩ : ∃ q, q = m + 2 := ⟨_, rfl⟩
  have h41 : M.2.2.1 41 j = nI (j + sz s) := hEd.at_ s hs
  have hps := sz_pos s hs
  have y0 := c_endOf hW q (i := j) (by omega)
  rw [h41] at y0
  have ee : f_X7_contract (m + 3) 53 (nI j) (nI k) M = T_X7_contract_0 (fun v M => some (v, M)) none (q + 1) 53 (nI j) (nI k) M := by rw [show m + 3 = q + 1 by omega]; rfl
  rcases hc with ⟨rfl, f, a, u, rfl, rfl⟩ | ⟨rfl, f, a, b, rfl, rfl⟩ | ⟨rfl, f, a, b, rfl, rfl⟩ | ⟨rfl, f, a, x, z, rfl, rfl⟩ | ⟨rfl, f, a, x, z, rfl, rfl⟩ | ⟨rfl, x, a, b, hsh⟩ | ⟨rfl, g, a, rfl, hsh⟩
  · obtain ⟨-, ⟨-, ha⟩, hu⟩ := hs
    obtain ⟨-, hS1, hS2⟩ := hS.B
    have hS3 := hS1.U.2
    rw [sz_B, sz_U] at hle he h41 y0
    rw [sz_U] at hS2
    have pa' := sz_pos a ha
    have pu := sz_pos u hu
    have y1 := c_endOf hW q (i := j + 1) (by omega)
    rw [hEd.2.1.1, show j + 1 + 1 + sz a = j + 1 + (sz a + 1) by omega] at y1
    have y2 := c_endOf hW q (i := j + 2) (by omega)
    obtain ⟨M1, y3, F1, G1⟩ := c_putFor hnm m (j := j) (lv := e) (d := e + 1) hu hS2 ha hS3 hL.2.1.2 hEd.2.1.2 (by omega) h42 (by omega) (by omega) h
    refine ⟨M1, ?_, F1, G1⟩
    rw [show m + 2 = q by omega, show j + 1 + (sz a + 1) + sz u = j + (sz a + 1 + sz u + 1) by omega] at y3
    rw [ee]
    unfold T_X7_contract_0
    have y3' : f_X7_putFor q 53 (nI j) (nI (j + 2)) (nI (j + 1 + (sz a + 1))) (nI (j + (sz a + 1 + sz u + 1))) M = some ((), M1) := y3
    simp (disch := omega) only [↓reduceIte, nI_1, show (2 : Int32) = nI 2 from rfl, nI_add, ↓gd_pos (fO_53 hW), ↓bnd_of (r_53_0 hW), ↓gd_pos (fO_40 hW), ↓bnd2_of (show cal (q + 1) (fun zz => f_X3_endOf zz 40 (nI (j + 1)) M) = _ from y1), ↓bnd2_of (show cal (q + 1) (fun zz => f_X3_endOf zz 40 (nI (j + 2)) M) = _ from y2), show (nI 1 = (1 : Int32)) = True from eq_true rfl, ↓bnd2_of (show cal (q + 1) (fun zz => f_X3_endOf zz 40 (nI j) M) = _ from y0), ↓bnd2_of (show cal (q + 1) (fun zz => f_X7_putFor zz 53 (nI j) (nI (j + 2)) (nI (j + 1 + (sz a + 1))) (nI (j + (sz a + 1 + sz u + 1))) M) = _ from y3')]
  · obtain ⟨-, -, ha, hb⟩ := hs
    obtain ⟨hS1, hS2⟩ := hS.U
    have hS3 := hS2.B.2.1
    rw [sz_U, sz_B] at hle
    have pa' := sz_pos s' ha
    have pb' := sz_pos b hb
    have y1 := c_endOf hW q (i := j + 1) (by omega)
    have y2 := c_endOf hW q (i := j + 2) (by omega)
    rw [show M.2.2.1 41 (j + 2) = nI (j + 2 + sz s') from hEd.2.2.1.at_ s' ha] at y2
    obtain ⟨M1, y3, F1, G1⟩ := c_copyTerm hnm m hS3 rfl h
    refine ⟨M1, ?_, F1, G1⟩
    rw [ee]
    unfold T_X7_contract_0
    have y3' : f_X7_copyPlain q 53 (nI (j + 2)) (nI (j + 2 + sz s')) M = some ((), M1) := by rw [hq]; exact y3
    simp (disch := omega) only [↓reduceIte, nI_1, show (2 : Int32) = nI 2 from rfl, nI_add, ↓gd_pos (fO_53 hW), ↓bnd_of (r_53_0 hW), ↓gd_pos (fO_40 hW), ↓bnd2_of (show cal (q + 1) (fun zz => f_X3_endOf zz 40 (nI (j + 1)) M) = _ from y1), ↓bnd2_of (show cal (q + 1) (fun zz => f_X3_endOf zz 40 (nI (j + 2)) M) = _ from y2), show (nI 2 = (1 : Int32)) = False from eq_false (by decide), ↓bnd2_of (show cal (q + 1) (fun zz => f_X7_copyPlain zz 53 (nI (j + 2)) (nI (j + 2 + sz s')) M) = _ from y3')]
  · obtain ⟨-, -, ha, hb⟩ := hs
    obtain ⟨hS1, hS2⟩ := hS.U
    have hS3 := hS2.B.2.2
    rw [sz_U, sz_B] at hle
    have pa' := sz_pos a ha
    have pb' := sz_pos s' hb
    have y1 := c_endOf hW q (i := j + 1) (by omega)
    rw [show M.2.2.1 41 (j + 1) = nI (j + 2 + sz a + sz s') from hEd.2.1] at y1
    have y2 := c_endOf hW q (i := j + 2) (by omega)
    rw [show M.2.2.1 41 (j + 2) = nI (j + 2 + sz a) from hEd.2.2.1.at_ a ha] at y2
    obtain ⟨M1, y3, F1, G1⟩ := c_copyTerm hnm m hS3 rfl h
    refine ⟨M1, ?_, F1, G1⟩
    rw [ee]
    unfold T_X7_contract_0
    have y3' : f_X7_copyPlain q 53 (nI (j + 2 + sz a)) (nI (j + 2 + sz a + sz s')) M = some ((), M1) := by rw [hq]; exact y3
    simp (disch := omega) only [↓reduceIte, nI_1, show (2 : Int32) = nI 2 from rfl, nI_add, ↓gd_pos (fO_53 hW), ↓bnd_of (r_53_0 hW), ↓gd_pos (fO_40 hW), ↓bnd2_of (show cal (q + 1) (fun zz => f_X3_endOf zz 40 (nI (j + 1)) M) = _ from y1), ↓bnd2_of (show cal (q + 1) (fun zz => f_X3_endOf zz 40 (nI (j + 2)) M) = _ from y2), show (nI 3 = (1 : Int32)) = False from eq_false (by decide), show (nI 3 = nI 2) = False from eq_false (by decide), show (nI 3 = (3 : Int32)) = True from eq_true rfl, ↓bnd2_of (show cal (q + 1) (fun zz => f_X7_copyPlain zz 53 (nI (j + 2 + sz a)) (nI (j + 2 + sz a + sz s')) M) = _ from y3')]
  · obtain ⟨⟨-, ha⟩, hx, hz⟩ := hs
    obtain ⟨-, hS1, hS2, hS3⟩ := hS.C
    have hS4 := hS1.U.2
    rw [sz_C, sz_U] at hle he
    rw [sz_U] at hS2
    have pa' := sz_pos a ha
    have px := sz_pos x hx
    have y1 := c_endOf hW q (i := j + 1) (by omega)
    rw [show M.2.2.1 41 (j + 1) = nI (j + 2 + sz a) from hEd.2.1.1] at y1
    have y2 := c_endOf hW q (i := j + 2) (by omega)
    obtain ⟨M1, y3, F1, G1⟩ := c_putFor hnm m (j := j) (lv := e) (d := e + 1) ha hS4 hx hS2 hL.2.2.1 hEd.2.2.1 (by omega) h42 (by omega) (by omega) h
    refine ⟨M1, ?_, F1, G1⟩
    rw [show m + 2 = q by omega, show j + 1 + (sz a + 1) = j + 2 + sz a by omega] at y3
    rw [ee]
    unfold T_X7_contract_0
    have y3' : f_X7_putFor q 53 (nI j) (nI (j + 2 + sz a)) (nI (j + 2)) (nI (j + 2 + sz a)) M = some ((), M1) := y3
    simp (disch := omega) only [↓reduceIte, nI_1, show (2 : Int32) = nI 2 from rfl, nI_add, ↓gd_pos (fO_53 hW), ↓bnd_of (r_53_0 hW), ↓gd_pos (fO_40 hW), ↓bnd2_of (show cal (q + 1) (fun zz => f_X3_endOf zz 40 (nI (j + 1)) M) = _ from y1), ↓bnd2_of (show cal (q + 1) (fun zz => f_X3_endOf zz 40 (nI (j + 2)) M) = _ from y2), show (nI 4 = (1 : Int32)) = False from eq_false (by decide), show (nI 4 = nI 2) = False from eq_false (by decide), show (nI 4 = (3 : Int32)) = False from eq_false (by decide), show (nI 4 = (4 : Int32)) = True from eq_true rfl, ↓bnd2_of (show cal (q + 1) (fun zz => f_X7_putFor zz 53 (nI j) (nI (j + 2 + sz a)) (nI (j + 2)) (nI (j + 2 + sz a)) M) = _ from y3')]
  · obtain ⟨⟨-, ha⟩, hx, hz⟩ := hs
    obtain ⟨-, hS1, hS2, hS3⟩ := hS.C
    have hS4 := hS1.U.2
    rw [sz_C, sz_U] at hle he
    rw [sz_U] at hS2 hS3
    have pa' := sz_pos a ha
    have px := sz_pos x hx
    have pz := sz_pos z hz
    have y1 := c_endOf hW q (i := j + 1) (by omega)
    rw [show M.2.2.1 41 (j + 1) = nI (j + 2 + sz a) from hEd.2.1.1] at y1
    have y2 := c_endOf hW q (i := j + 2) (by omega)
    have y4 := c_endOf hW q (i := j + 2 + sz a) (by omega)
    have e41 : M.2.2.1 41 (j + 2 + sz a) = nI (j + 2 + sz a + sz x) := by
      have := hEd.2.2.1.at_ x hx
      rw [sz_U, show j + 1 + (sz a + 1) = j + 2 + sz a by omega] at this
      exact this
    rw [e41] at y4
    obtain ⟨M1, y3, F1, G1⟩ := c_putFor hnm m (j := j) (lv := e) (d := e + 1) ha hS4 hz hS3 hL.2.2.2 hEd.2.2.2 (by omega) h42 (by omega) (by omega) h
    refine ⟨M1, ?_, F1, G1⟩
    rw [show m + 2 = q by omega, show j + 1 + (sz a + 1) + sz x = j + 2 + sz a + sz x by omega] at y3
    rw [ee]
    unfold T_X7_contract_0
    have y3' : f_X7_putFor q 53 (nI j) (nI (j + 2 + sz a + sz x)) (nI (j + 2)) (nI (j + 2 + sz a)) M = some ((), M1) := y3
    simp (disch := omega) only [↓reduceIte, nI_1, show (2 : Int32) = nI 2 from rfl, nI_add, ↓gd_pos (fO_53 hW), ↓bnd_of (r_53_0 hW), ↓gd_pos (fO_40 hW), ↓bnd2_of (show cal (q + 1) (fun zz => f_X3_endOf zz 40 (nI (j + 1)) M) = _ from y1), ↓bnd2_of (show cal (q + 1) (fun zz => f_X3_endOf zz 40 (nI (j + 2)) M) = _ from y2), show (nI 5 = (1 : Int32)) = False from eq_false (by decide), show (nI 5 = nI 2) = False from eq_false (by decide), show (nI 5 = (3 : Int32)) = False from eq_false (by decide), show (nI 5 = (4 : Int32)) = False from eq_false (by decide), show (nI 5 = (5 : Int32)) = True from eq_true rfl, ↓bnd2_of (show cal (q + 1) (fun zz => f_X3_endOf zz 40 (nI (j + 2 + sz a)) M) = _ from y4), ↓bnd2_of (show cal (q + 1) (fun zz => f_X7_putFor zz 53 (nI j) (nI (j + 2 + sz a + sz x)) (nI (j + 2)) (nI (j + 2 + sz a)) M) = _ from y3')]
  · have fin : Sb ls (j + 1) (tC x a b) → isT (tC x a b) → Ed M (tC x a b) (j + 1) → j + 1 + sz (tC x a b) ≤ j + sz s → [(9, Jvm.Term.null)] ++ rws x ++ ([(opl ls j, lbl ls j)] ++ rws a ++ rst ls e (j + 1 + sz (tC x a b)) (j + sz s)) ++ ([(opl ls j, lbl ls j)] ++ rws b ++ rst ls e (j + 1 + sz (tC x a b)) (j + sz s)) = rws s' → ∃ M1, f_X7_contract (m + 3) 53 (nI j) (nI 6) M = some ((), M1) ∧ Fr (SO tg) M M1 ∧ TgC M1 tg c (l ++ rws s') := by
      intro g1 g2 g3 g4 g5
      obtain ⟨M1, y3, F1, G1⟩ := c_moveOut hnm m g2.1 g2.2.1 g2.2.2 g1 g4 hle (by omega) h g3 h41 h42
      rw [g5] at G1
      refine ⟨M1, ?_, F1, G1⟩
      have p3 := sz_pos x g2.1
      have g6 := g1.le
      rw [sz_C] at g6
      have y1 := c_endOf hW q (i := j + 1) (by omega)
      have y2 := c_endOf hW q (i := j + 2) (by omega)
      rw [ee]
      rw [show m + 2 = q by omega] at y3
      unfold T_X7_contract_0
      simp (disch := omega) only [↓reduceIte, nI_1, show (2 : Int32) = nI 2 from rfl, nI_add, ↓gd_pos (fO_53 hW), ↓bnd_of (r_53_0 hW), ↓gd_pos (fO_40 hW), ↓bnd2_of (show cal (q + 1) (fun zz => f_X3_endOf zz 40 (nI (j + 1)) M) = _ from y1), ↓bnd2_of (show cal (q + 1) (fun zz => f_X3_endOf zz 40 (nI (j + 2)) M) = _ from y2), show (nI 6 = (1 : Int32)) = False from eq_false (by decide), show (nI 6 = nI 2) = False from eq_false (by decide), show (nI 6 = (3 : Int32)) = False from eq_false (by decide), show (nI 6 = (4 : Int32)) = False from eq_false (by decide), show (nI 6 = (5 : Int32)) = False from eq_false (by decide), show (nI 6 = (6 : Int32)) = True from eq_true rfl, ↓bnd2_of (show cal (q + 1) (fun zz => f_X7_moveOut zz 53 (nI j) M) = _ from y3)]
    rcases hsh with ⟨u, rfl, rfl⟩ | ⟨o, f, ho, rfl, rfl⟩ | ⟨x1, z1, rfl, rfl⟩
    · obtain ⟨g1, g2, g3⟩ := hS.B
      obtain ⟨o1, o2, -⟩ := opl_of g1
      refine fin g2 hs.2.1 hEd.2.1 (by rw [sz_B]; omega) ?_
      unfold rst
      rw [o1, o2, sz_B, show j + (sz (tC x a b) + sz u + 1) - (j + 1 + sz (tC x a b)) = sz u by omega, seg_sb g3, ← rws_lft u hs.2.2]
      simp [rws_C, rws_B]
    · obtain ⟨g1, g2⟩ := hS.U
      obtain ⟨o1, o2, -⟩ := opl_of g1
      refine fin g2 hs.2 hEd.2 (by rw [sz_U]; omega) ?_
      unfold rst
      rw [o1, o2, sz_U, show j + (sz (tC x a b) + 1) - (j + 1 + sz (tC x a b)) = 0 by omega]
      simp [rws_C, rws_U]
    · obtain ⟨g1, g2, g3, g4⟩ := hS.C
      obtain ⟨o1, o2, -⟩ := opl_of g1
      refine fin g2 hs.1 hEd.2.1 (by rw [sz_C (m := tC x a b)]; omega) ?_
      obtain ⟨X, Z, e1, e2⟩ := hS
      have e3 : (ls.drop (j + 1 + sz (tC x a b))).take (rws x1 ++ rws z1).length = rws x1 ++ rws z1 := by
        refine seg_of (X := X ++ [(9, .null)] ++ rws (tC x a b)) (Z := Z) ?_ ?_
        · rw [e1, rws_C (m := tC x a b)]
          simp
        · simp only [List.length_append, List.length_cons, List.length_nil, sz]
          omega
      unfold rst
      rw [o1, o2, sz_C (m := tC x a b), show j + (sz (tC x a b) + sz x1 + sz z1 + 1) - (j + 1 + sz (tC x a b)) = (rws x1 ++ rws z1).length by simp only [List.length_append, sz]; omega, e3, List.map_append, ← rws_lft x1 hs.2.1, ← rws_lft z1 hs.2.2]
      simp [rws_C]
  · have fin : Sb ls (j + 1) (tU 10 g a) → isT a → Ed M (tU 10 g a) (j + 1) → ∃ M1, f_X7_contract (m + 3) 53 (nI j) (nI 7) M = some ((), M1) ∧ Fr (SO tg) M M1 ∧ TgC M1 tg c (l ++ rws (tU 10 y a)) := by
      intro g1 g2 g3
      obtain ⟨v, v1, v2, v3⟩ := h7 rfl
      have g4 := g1.le
      rw [sz_U] at g4
      have p2 := sz_pos a g2
      have y1 := c_endOf hW q (i := j + 1) (by omega)
      rw [show M.2.2.1 41 (j + 1) = nI (j + 2 + sz a) from g3.1] at y1
      have y2 := c_endOf hW q (i := j + 2) (by omega)
      have y3 := c_typeOf hW q (i := j) (by omega)
      rw [v2] at y3
      obtain ⟨M1, y4, F1, G1⟩ := c_add hW htg h.1.2.2.2.2.2.2 q (o := 10) (lb := y) (g := nI v) (by omega) (by omega) ⟨fun q => (by cases q), fun _ => ⟨v, v1, rfl, v3⟩, fun _ q => (q (Or.inr (Or.inr (Or.inr rfl)))).elim⟩
      have h1 := h.add F1 G1
      obtain ⟨M2, y5, F2, G2⟩ := c_copyTerm hnm m g1.U.2 rfl h1
      refine ⟨M2, ?_, F1.trans F2, ?_⟩
      · rw [ee]
        unfold T_X7_contract_0
        have y4' : f_X9_add q tg 10 (nI v) M = some ((), M1) := y4
        have y5' : f_X7_copyPlain q 53 (nI (j + 2)) (nI (j + 2 + sz a)) M1 = some ((), M2) := by rw [hq]; exact y5
        simp (disch := omega) only [↓reduceIte, nI_1, show (2 : Int32) = nI 2 from rfl, nI_add, ↓gd_pos (fO_53 hW), ↓bnd_of (r_53_0 hW), ↓gd_pos (fO_40 hW), ↓bnd2_of (show cal (q + 1) (fun zz => f_X3_endOf zz 40 (nI (j + 1)) M) = _ from y1), ↓bnd2_of (show cal (q + 1) (fun zz => f_X3_endOf zz 40 (nI (j + 2)) M) = _ from y2), show (nI 7 = (1 : Int32)) = False from eq_false (by decide), show (nI 7 = nI 2) = False from eq_false (by decide), show (nI 7 = (3 : Int32)) = False from eq_false (by decide), show (nI 7 = (4 : Int32)) = False from eq_false (by decide), show (nI 7 = (5 : Int32)) = False from eq_false (by decide), show (nI 7 = (6 : Int32)) = False from eq_false (by decide), ↓bnd_of h.1.2.2.2.2.2.1, ↓bnd2_of (show cal (q + 1) (fun zz => f_X3_typeOf zz 40 (nI j) M) = _ from y3), ↓gd_pos (fO_T hW htg), ↓bnd2_of (show cal (q + 1) (fun zz => f_X9_add zz tg 10 (nI v) M) = _ from y4'), ↓gd_pos (fO_53 h1.1.1), ↓bnd2_of (show cal (q + 1) (fun zz => f_X7_copyPlain zz 53 (nI (j + 2)) (nI (j + 2 + sz a)) M1) = _ from y5')]
      · rw [rws_U]
        simpa using G2
    rcases hsh with ⟨u, rfl⟩ | ⟨o, f, ho, rfl⟩ | ⟨x1, z1, rfl⟩
    · exact fin hS.B.2.1 hs.2.1.2 hEd.2.1
    · exact fin hS.U.2 hs.2.2 hEd.2
    · exact fin hS.C.2.1 hs.1.2 hEd.2.1
end CTR
