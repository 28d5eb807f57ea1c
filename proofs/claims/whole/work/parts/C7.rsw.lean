/-! A STEP in the reference: all of it but tidying -/
def SSp (a k : Nat) : Prop := SR a k ∨ (a = 89 ∧ (k = 24 ∨ k = 25 ∨ k = 30 ∨ k = 31 ∨ k = 43)) ∨ (105 ≤ a ∧ a ≤ 108) ∨ (113 ≤ a ∧ a ≤ 115)
def PsE (M : Mem) (c : Nat) (M1 : Mem) (c1 c0 : Nat) (CI : Fm → Prop) : Prop := TabR M1 c1 ∧ c ≤ c1 ∧ (∀ i, i < c → dR M1 i = dR M i) ∧ NewR M1 c1 c0 CI
section RSA
variable {c : Nat} {Hl : List (Nat × Fm)} {CI : Fm → Prop}
theorem NewR.same {M M1 : Mem} {c c0 : Nat} (h : NewR M c c0 CI) (e : dR M1 = dR M) : NewR M1 c c0 CI := fun i h1 h2 => by rw [e]; exact h i h1 h2
set_option maxHeartbeats 4000000 in
theorem rx_sw {M M1 M3 : Mem} {c1 u : Nat} {t s s' : Tm} {j e kd : Nat} {y : Fm} {X : List (Nat × Tm)} (hW : Wd M) (hW1 : Wd M1) (hs : isT s) (hS : Sb (rws t) j s) (hc : Cn e y kd s s') (he : e + sz s < 1000) (hl2 : sz t ≤ 200) (hnm : ∀ nd, nd ∈ rws t → nmB nd) (m q : Nat) (hq : q = m + 2) (y0 : f_X11_firstRedex q 89 M = some (nI j, M)) (y1 : f_X11_redexAt q 89 (nI j) M = some (nI kd, M)) (y2 : f_X11_asked q 89 M = some (nI u, M1)) (y3 : f_X11_willBe q 89 (nI j) (nI kd) M1 = some (nI (sz t - sz s + sz s'), M1)) (h200 : sz t - sz s + sz s' ≤ 200) (y4 : f_X11_behind q 89 (nI j) M1 = some (nI (j + sz s), M1)) (y5 : f_X11_copies q 89 0 (nI j) 0 0 (wI M1 89 25 0) = some ((), M3)) (hN : NwS M3 c1 (rws t) X) (hX : X.length = j) (hD : DpR M3 s j e) (h7 : kd = 7 → ∃ v, v < c1 ∧ M3.2.2.1 113 j = nI v ∧ dR M3 v = y) : ∃ M4, f_X11_steps (q + 1) 89 M = lp (st_X11_steps (q + 1)) (361, [.ref 89, .int (nI kd), .int (nI (j + sz s))], M4) ∧ Fr SNw M3 M4 ∧ NwS M4 c1 (rws t) (X ++ rws s') := by
  have hle := hS.le
  rw [rws_len] at hle
  have hps := sz_pos s hs
  have hW3 := hN.1
  have hR3 := hN.2.1
  have hA := fA_R hW3 (a := 114) (by omega) (s_114 hW3) (show j < 400 by omega) (by omega)
  have ee := ge_X11_steps_0 (q + 1) 89 M
  have ee : f_X11_steps (q + 1) 89 M = _ := ee
  rw [ee]
  unfold T_X11_steps_0
  rcases hc with ⟨rfl, f, a, u, rfl, rfl⟩ | ⟨rfl, f, a, b, rfl, rfl⟩ | ⟨rfl, f, a, b, rfl, rfl⟩ | ⟨rfl, f, a, x, z, rfl, rfl⟩ | ⟨rfl, f, a, x, z, rfl, rfl⟩ | ⟨rfl, x, a, b, hsh⟩ | ⟨rfl, g, a, rfl, hsh⟩
  · obtain ⟨-, hi, hu⟩ := hs
    obtain ⟨-, hS1, hS2⟩ := hS.B
    have h114 : M3.2.2.1 114 j = nI e := hD.1
    have z1 := rx_inner1 hW3 hR3 m hi hS1
    rw [sz_B, sz_U] at he
    obtain ⟨M4, z2, F4, N4⟩ := rx_puts hnm m (lv := e) (d := e + 1) hu hS2 hi.2 hS1.U.2 hD.2.1.2 (by omega) (by omega) hN (by omega)
    rw [← hq] at z1 z2
    refine ⟨M4, ?_, F4, N4⟩
    simp (disch := omega) only [↓reduceIte, ↓gd_pos (fO_R hW), ↓bnd2_of (show cal (q + 1) (fun zz => f_X11_firstRedex zz 89 M) = _ from y0), nI_ne_m1, ↓bnd2_of (show cal (q + 1) (fun zz => f_X11_redexAt zz 89 (nI j) M) = _ from y1), ↓bnd2_of (show cal (q + 1) (fun zz => f_X11_asked zz 89 M) = _ from y2), ↓gd_pos (fO_R hW1), ↓bnd2_of (show cal (q + 1) (fun zz => f_X11_willBe zz 89 (nI j) (nI 1) M1) = _ from y3), show (200 : Int32) = nI 200 from rfl, nI_le_, eq_true h200, ↓bnd2_of (show cal (q + 1) (fun zz => f_X11_behind zz 89 (nI j) M1) = _ from y4), ↓bnd2_of (show cal (q + 1) (fun zz => f_X11_copies zz 89 0 (nI j) 0 0 (wI M1 89 25 0)) = _ from y5), ↓gd_pos (fO_R hW3), show (nI 1 = (1 : Int32)) = True from eq_true rfl, ↓bnd_of (r_89_41 hW3), ↓gd_pos hA, nI_z, h114, ↓bnd2_of (show cal (q + 1) (fun zz => f_X11_inner zz 89 (nI j) 1 M3) = _ from z1), nI_1, ↓bnd2_of (show cal (q + 1) (fun zz => f_X11_puts zz 89 (nI (j + 1 + 1)) (nI e) (nI (j + 1 + sz (tU 2 f a))) M3) = _ from z2)]
  · obtain ⟨-, -, ha, hb⟩ := hs
    obtain ⟨hS1, hS2⟩ := hS.U
    have z1 := rx_inner0 (M := M3) q (j + 1)
    have z2 := rx_inner1 hW3 hR3 m ha hS2.B.2.1
    obtain ⟨M4, z3, F4, N4⟩ := rx_copyT hnm (m + 1) hS2.B.2.1 rfl hN (by omega)
    rw [← hq] at z2
    rw [show m + 1 + 1 = q by omega] at z3
    refine ⟨M4, ?_, F4, N4⟩
    simp (disch := omega) only [↓reduceIte, ↓gd_pos (fO_R hW), ↓bnd2_of (show cal (q + 1) (fun zz => f_X11_firstRedex zz 89 M) = _ from y0), nI_ne_m1, ↓bnd2_of (show cal (q + 1) (fun zz => f_X11_redexAt zz 89 (nI j) M) = _ from y1), ↓bnd2_of (show cal (q + 1) (fun zz => f_X11_asked zz 89 M) = _ from y2), ↓gd_pos (fO_R hW1), ↓bnd2_of (show cal (q + 1) (fun zz => f_X11_willBe zz 89 (nI j) (nI 2) M1) = _ from y3), show (200 : Int32) = nI 200 from rfl, nI_le_, eq_true h200, ↓bnd2_of (show cal (q + 1) (fun zz => f_X11_behind zz 89 (nI j) M1) = _ from y4), ↓bnd2_of (show cal (q + 1) (fun zz => f_X11_copies zz 89 0 (nI j) 0 0 (wI M1 89 25 0)) = _ from y5), ↓gd_pos (fO_R hW3), show (nI 2 = (1 : Int32)) = False from eq_false (by decide), show (nI 2 = (2 : Int32)) = True from eq_true rfl, nI_1, ↓bnd2_of (show cal (q + 1) (fun zz => f_X11_inner zz 89 (nI (j + 1)) 0 M3) = _ from z1), ↓bnd2_of (show cal (q + 1) (fun zz => f_X11_inner zz 89 (nI (j + 1)) 1 M3) = _ from z2), ↓bnd2_of (show cal (q + 1) (fun zz => f_X11_copies zz 89 (nI (j + 1 + 1)) (nI (j + 1 + 1 + sz s')) 0 0 M3) = _ from z3)]
  · obtain ⟨-, -, ha, hb⟩ := hs
    obtain ⟨hS1, hS2⟩ := hS.U
    have z1 := rx_inner1 hW3 hR3 m ha hS2.B.2.1
    have z2 := rx_behind hW3 hR3 (m + 1) (isT_B (Or.inr rfl) ha hb) hS2
    obtain ⟨M4, z3, F4, N4⟩ := rx_copyT hnm (m + 1) hS2.B.2.2 (e := j + 1 + sz (tB 4 a s')) (by rw [sz_B]; omega) hN (by omega)
    rw [← hq] at z1
    rw [show m + 1 + 1 = q by omega] at z2 z3
    refine ⟨M4, ?_, F4, N4⟩
    simp (disch := omega) only [↓reduceIte, ↓gd_pos (fO_R hW), ↓bnd2_of (show cal (q + 1) (fun zz => f_X11_firstRedex zz 89 M) = _ from y0), nI_ne_m1, ↓bnd2_of (show cal (q + 1) (fun zz => f_X11_redexAt zz 89 (nI j) M) = _ from y1), ↓bnd2_of (show cal (q + 1) (fun zz => f_X11_asked zz 89 M) = _ from y2), ↓gd_pos (fO_R hW1), ↓bnd2_of (show cal (q + 1) (fun zz => f_X11_willBe zz 89 (nI j) (nI 3) M1) = _ from y3), show (200 : Int32) = nI 200 from rfl, nI_le_, eq_true h200, ↓bnd2_of (show cal (q + 1) (fun zz => f_X11_behind zz 89 (nI j) M1) = _ from y4), ↓bnd2_of (show cal (q + 1) (fun zz => f_X11_copies zz 89 0 (nI j) 0 0 (wI M1 89 25 0)) = _ from y5), ↓gd_pos (fO_R hW3), show (nI 3 = (1 : Int32)) = False from eq_false (by decide), show (nI 3 = (2 : Int32)) = False from eq_false (by decide), show (nI 3 = (3 : Int32)) = True from eq_true rfl, nI_1, ↓bnd2_of (show cal (q + 1) (fun zz => f_X11_inner zz 89 (nI (j + 1)) 1 M3) = _ from z1), ↓bnd2_of (show cal (q + 1) (fun zz => f_X11_behind zz 89 (nI (j + 1)) M3) = _ from z2), ↓bnd2_of (show cal (q + 1) (fun zz => f_X11_copies zz 89 (nI (j + 1 + 1 + sz a)) (nI (j + 1 + sz (tB 4 a s'))) 0 0 M3) = _ from z3)]
  · obtain ⟨hi, hx, hz⟩ := hs
    obtain ⟨-, hS1, hS2, hS3⟩ := hS.C
    have h114 : M3.2.2.1 114 j = nI e := hD.1
    have z1 := rx_inner1 hW3 hR3 m hi hS1
    have z2 := rx_inner0 (M := M3) q (j + 1)
    rw [sz_C, sz_U] at he
    obtain ⟨M4, z3, F4, N4⟩ := rx_puts hnm m (lv := e) (d := e + 1) hi.2 hS1.U.2 hx hS2 hD.2.2.1 (by omega) (by omega) hN (by omega)
    rw [← hq] at z1 z3
    refine ⟨M4, ?_, F4, N4⟩
    simp (disch := omega) only [↓reduceIte, ↓gd_pos (fO_R hW), ↓bnd2_of (show cal (q + 1) (fun zz => f_X11_firstRedex zz 89 M) = _ from y0), nI_ne_m1, ↓bnd2_of (show cal (q + 1) (fun zz => f_X11_redexAt zz 89 (nI j) M) = _ from y1), ↓bnd2_of (show cal (q + 1) (fun zz => f_X11_asked zz 89 M) = _ from y2), ↓gd_pos (fO_R hW1), ↓bnd2_of (show cal (q + 1) (fun zz => f_X11_willBe zz 89 (nI j) (nI 4) M1) = _ from y3), show (200 : Int32) = nI 200 from rfl, nI_le_, eq_true h200, ↓bnd2_of (show cal (q + 1) (fun zz => f_X11_behind zz 89 (nI j) M1) = _ from y4), ↓bnd2_of (show cal (q + 1) (fun zz => f_X11_copies zz 89 0 (nI j) 0 0 (wI M1 89 25 0)) = _ from y5), ↓gd_pos (fO_R hW3), show (nI 4 = (1 : Int32)) = False from eq_false (by decide), show (nI 4 = (2 : Int32)) = False from eq_false (by decide), show (nI 4 = (3 : Int32)) = False from eq_false (by decide), show (nI 4 = (4 : Int32)) = True from eq_true rfl, ↓bnd2_of (show cal (q + 1) (fun zz => f_X11_inner zz 89 (nI j) 1 M3) = _ from z1), ↓bnd_of (r_89_41 hW3), ↓gd_pos hA, nI_z, h114, nI_1, ↓bnd2_of (show cal (q + 1) (fun zz => f_X11_inner zz 89 (nI (j + 1)) 0 M3) = _ from z2), ↓bnd2_of (show cal (q + 1) (fun zz => f_X11_puts zz 89 (nI (j + 1 + sz (tU 7 f a))) (nI e) (nI (j + 1 + 1)) M3) = _ from z3)]
  · obtain ⟨hi, hx, hz⟩ := hs
    obtain ⟨-, hS1, hS2, hS3⟩ := hS.C
    have h114 : M3.2.2.1 114 j = nI e := hD.1
    have z1 := rx_inner2 hW3 hR3 m hi hx hS1 hS2
    have z2 := rx_inner0 (M := M3) q (j + 1)
    rw [sz_C, sz_U] at he
    obtain ⟨M4, z3, F4, N4⟩ := rx_puts hnm m (lv := e) (d := e + 1) hi.2 hS1.U.2 hz hS3 hD.2.2.2 (by omega) (by omega) hN (by omega)
    rw [← hq] at z1 z3
    refine ⟨M4, ?_, F4, N4⟩
    simp (disch := omega) only [↓reduceIte, ↓gd_pos (fO_R hW), ↓bnd2_of (show cal (q + 1) (fun zz => f_X11_firstRedex zz 89 M) = _ from y0), nI_ne_m1, ↓bnd2_of (show cal (q + 1) (fun zz => f_X11_redexAt zz 89 (nI j) M) = _ from y1), ↓bnd2_of (show cal (q + 1) (fun zz => f_X11_asked zz 89 M) = _ from y2), ↓gd_pos (fO_R hW1), ↓bnd2_of (show cal (q + 1) (fun zz => f_X11_willBe zz 89 (nI j) (nI 5) M1) = _ from y3), show (200 : Int32) = nI 200 from rfl, nI_le_, eq_true h200, ↓bnd2_of (show cal (q + 1) (fun zz => f_X11_behind zz 89 (nI j) M1) = _ from y4), ↓bnd2_of (show cal (q + 1) (fun zz => f_X11_copies zz 89 0 (nI j) 0 0 (wI M1 89 25 0)) = _ from y5), ↓gd_pos (fO_R hW3), show (nI 5 = (1 : Int32)) = False from eq_false (by decide), show (nI 5 = (2 : Int32)) = False from eq_false (by decide), show (nI 5 = (3 : Int32)) = False from eq_false (by decide), show (nI 5 = (4 : Int32)) = False from eq_false (by decide), show (nI 5 = (5 : Int32)) = True from eq_true rfl, ↓bnd2_of (show cal (q + 1) (fun zz => f_X11_inner zz 89 (nI j) 2 M3) = _ from z1), ↓bnd_of (r_89_41 hW3), ↓gd_pos hA, nI_z, h114, nI_1, ↓bnd2_of (show cal (q + 1) (fun zz => f_X11_inner zz 89 (nI (j + 1)) 0 M3) = _ from z2), ↓bnd2_of (show cal (q + 1) (fun zz => f_X11_puts zz 89 (nI (j + 1 + sz (tU 8 f a) + sz x)) (nI e) (nI (j + 1 + 1)) M3) = _ from z3)]
  · have fn : isT (tC x a b) → Sb (rws t) (j + 1) (tC x a b) → M3.2.2.1 114 j = nI e → j + 1 + sz (tC x a b) ≤ j + sz s → sz s' + sz (tC x a b) = sz s + sz s → [(9, Jvm.Term.null)] ++ rws x ++ ([(opl (rws t) j, lbl (rws t) j)] ++ rws a ++ rst (rws t) e (j + 1 + sz (tC x a b)) (j + sz s)) ++ ([(opl (rws t) j, lbl (rws t) j)] ++ rws b ++ rst (rws t) e (j + 1 + sz (tC x a b)) (j + sz s)) = rws s' → ∃ M4, T_X11_steps_0 (fun c l M => lp (st_X11_steps (q + 1)) (c, l, M)) (fun v M => some (v, M)) none (q + 1) 89 M = lp (st_X11_steps (q + 1)) (361, [.ref 89, .int (nI 6), .int (nI (j + sz s))], M4) ∧ Fr SNw M3 M4 ∧ NwS M4 c1 (rws t) (X ++ rws s') := by
      intro g1 g2 g3 g4 g5 g6
      obtain ⟨-, hS1, hS2, hS3⟩ := g2.C
      obtain ⟨hx, ha, hb⟩ := g1
      have szi : sz (tC x a b) = sz x + sz a + sz b + 1 := sz_C
      obtain ⟨M4, z1, F4, N4⟩ := rx_writes hN q (o := 9) (lb := .null) (g := -1) (by omega) (by omega) ⟨fun q => (by cases q), fun q => (by unfold tf at q; simp at q), fun _ _ => rfl⟩ (by omega)
      have z2 := rx_inner0 (M := M4) q (j + 1)
      have z3 := rx_inner1 N4.1 N4.2.1 m hx hS1
      obtain ⟨M5, z4, F5, N5⟩ := rx_copyT hnm (m + 1) hS1 rfl N4 (by simp; omega)
      rw [← hq] at z3
      rw [show m + 1 + 1 = q by omega] at z4
      have F05 := F4.trans F5
      obtain ⟨M6, z5, F6, N6⟩ := s254_one hnm (m + 1) q (by omega) (j := j) (e := e) (E := j + sz s) (n := 1) ha hS2 (isT_C hx ha hb) g2 rfl g4 (by rw [rws_len]; omega) (by omega) (Or.inl rfl) N5 ((F05.int (by unfold SNw; omega)).trans g3) (fun M' w1 w2 => by rw [hq]; exact rx_inner1 w1 w2 m hx hS1) (by simp only [List.length_append, List.length_cons, List.length_nil, rws_len]; omega)
      have F06 := F05.trans F6
      have lr : (rst (rws t) e (j + 1 + sz (tC x a b)) (j + sz s)).length ≤ j + sz s - (j + 1 + sz (tC x a b)) := by
        unfold rst
        rw [List.length_map, List.length_take]
        omega
      obtain ⟨M7, z6, F7, N7⟩ := s254_one hnm (m + 1) q (by omega) (j := j) (e := e) (E := j + sz s) (n := 2) hb hS3 (isT_C hx ha hb) g2 rfl g4 (by rw [rws_len]; omega) (by omega) (Or.inr rfl) N6 ((F06.int (by unfold SNw; omega)).trans g3) (fun M' w1 w2 => by rw [hq]; exact rx_inner2 w1 w2 m hx ha hS1 hS2) (by simp only [List.length_append, List.length_cons, List.length_nil, rws_len]; omega)
      refine ⟨M7, ?_, F06.trans F7, ?_⟩
      · have z7 : lpS q j (j + sz s) (2 + 1) M7 = lp (st_X11_steps (q + 1)) (361, [.ref 89, .int (nI 6), .int (nI (j + sz s))], M7) := by
          unfold lpS
          refine (ge_X11_steps_254 (q + 1) 89 (nI j) (nI 6) (nI (j + 1)) (nI (j + sz s)) (nI (2 + 1)) M7).trans ?_
          unfold T_X11_steps_254
          rw [if_pos (show (3 : Int32) ≤ nI (2 + 1) by decide)]
        rw [← z7, ← z6, ← z5]
        unfold T_X11_steps_0
        have z1' : f_X11_writes q 89 8 (-1) M3 = some ((), M4) := z1
        simp (disch := omega) only [↓reduceIte, ↓gd_pos (fO_R hW), ↓bnd2_of (show cal (q + 1) (fun zz => f_X11_firstRedex zz 89 M) = _ from y0), nI_ne_m1, ↓bnd2_of (show cal (q + 1) (fun zz => f_X11_redexAt zz 89 (nI j) M) = _ from y1), ↓bnd2_of (show cal (q + 1) (fun zz => f_X11_asked zz 89 M) = _ from y2), ↓gd_pos (fO_R hW1), ↓bnd2_of (show cal (q + 1) (fun zz => f_X11_willBe zz 89 (nI j) (nI 6) M1) = _ from y3), show (200 : Int32) = nI 200 from rfl, nI_le_, eq_true h200, ↓bnd2_of (show cal (q + 1) (fun zz => f_X11_behind zz 89 (nI j) M1) = _ from y4), ↓bnd2_of (show cal (q + 1) (fun zz => f_X11_copies zz 89 0 (nI j) 0 0 (wI M1 89 25 0)) = _ from y5), ↓gd_pos (fO_R hW3), show (nI 6 = (1 : Int32)) = False from eq_false (by decide), show (nI 6 = (2 : Int32)) = False from eq_false (by decide), show (nI 6 = (3 : Int32)) = False from eq_false (by decide), show (nI 6 = (4 : Int32)) = False from eq_false (by decide), show (nI 6 = (5 : Int32)) = False from eq_false (by decide), show (nI 6 = (6 : Int32)) = True from eq_true rfl, ↓bnd2_of (show cal (q + 1) (fun zz => f_X11_writes zz 89 8 (-1) M3) = _ from z1'), ↓gd_pos (fO_R N4.1), nI_1, ↓bnd2_of (show cal (q + 1) (fun zz => f_X11_inner zz 89 (nI (j + 1)) 0 M4) = _ from z2), ↓bnd2_of (show cal (q + 1) (fun zz => f_X11_inner zz 89 (nI (j + 1)) 1 M4) = _ from z3), ↓bnd2_of (show cal (q + 1) (fun zz => f_X11_copies zz 89 (nI (j + 1 + 1)) (nI (j + 1 + 1 + sz x)) 0 0 M4) = _ from z4)]
        rfl
      · rw [← g6]
        simpa using N7
    rcases hsh with ⟨v, rfl, rfl⟩ | ⟨o, f, ho, rfl, rfl⟩ | ⟨x1, z1, rfl, rfl⟩
    · obtain ⟨g1, g2, g3⟩ := hS.B
      obtain ⟨o1, o2, -⟩ := opl_of g1
      refine fn hs.2.1 g2 hD.1 (by rw [sz_B]; omega) (by rw [sz_C, sz_B, sz_B, sz_B, sz_C, sz_lft v hs.2.2]; omega) ?_
      unfold rst
      rw [o1, o2, sz_B, show j + (sz (tC x a b) + sz v + 1) - (j + 1 + sz (tC x a b)) = sz v by omega, seg_sb g3, ← rws_lft v hs.2.2]
      simp [rws_C, rws_B]
    · obtain ⟨g1, g2⟩ := hS.U
      obtain ⟨o1, o2, -⟩ := opl_of g1
      refine fn hs.2 g2 hD.1 (by rw [sz_U]; omega) (by rw [sz_C, sz_U, sz_U, sz_U, sz_C]; omega) ?_
      unfold rst
      rw [o1, o2, sz_U, show j + (sz (tC x a b) + 1) - (j + 1 + sz (tC x a b)) = 0 by omega]
      simp [rws_C, rws_U]
    · obtain ⟨g1, g2, g3, g4⟩ := hS.C
      obtain ⟨o1, o2, -⟩ := opl_of g1
      refine fn hs.1 g2 hD.1 (by rw [sz_C (m := tC x a b)]; omega) (by rw [sz_C (m := x), sz_C (m := a), sz_C (m := b), sz_C (m := tC x a b), sz_C (m := x), sz_lft x1 hs.2.1, sz_lft z1 hs.2.2]; omega) ?_
      obtain ⟨X0, Z, e1, e2⟩ := hS
      have e3 : ((rws t).drop (j + 1 + sz (tC x a b))).take (rws x1 ++ rws z1).length = rws x1 ++ rws z1 := by
        refine seg_of (X := X0 ++ [(9, .null)] ++ rws (tC x a b)) (Z := Z) ?_ ?_
        · rw [e1, rws_C (m := tC x a b)]
          simp
        · simp only [List.length_append, List.length_cons, List.length_nil, sz]
          omega
      unfold rst
      rw [o1, o2, sz_C (m := tC x a b), show j + (sz (tC x a b) + sz x1 + sz z1 + 1) - (j + 1 + sz (tC x a b)) = (rws x1 ++ rws z1).length by simp only [List.length_append, sz]; omega, e3, List.map_append, ← rws_lft x1 hs.2.1, ← rws_lft z1 hs.2.2]
      simp [rws_C]
  · have fn : isT a → Sb (rws t) (j + 1) (tU 10 g a) → ∃ M4, T_X11_steps_0 (fun c l M => lp (st_X11_steps (q + 1)) (c, l, M)) (fun v M => some (v, M)) none (q + 1) 89 M = lp (st_X11_steps (q + 1)) (361, [.ref 89, .int (nI 7), .int (nI (j + sz s))], M4) ∧ Fr SNw M3 M4 ∧ NwS M4 c1 (rws t) (X ++ rws (tU 10 y a)) := by
      intro g1 g2
      obtain ⟨v, v1, v2, v3⟩ := h7 rfl
      have hA13 := fA_R hW3 (a := 113) (by omega) (s_113 hW3) (show j < 400 by omega) (by omega)
      have szU : sz (tU 10 y a) = sz a + 1 := sz_U
      obtain ⟨M4, z1, F4, N4⟩ := rx_writes hN q (o := 10) (lb := y) (g := nI v) (by omega) (by omega) ⟨fun q => (by cases q), fun _ => ⟨v, v1, rfl, v3⟩, fun _ q => (q (Or.inr (Or.inr (Or.inr rfl)))).elim⟩ (by omega)
      have z2 := rx_inner0 (M := M4) q (j + 1)
      have z3 := rx_behind N4.1 N4.2.1 (m + 1) (isT_U (uOk_10 g) g1) g2
      obtain ⟨M5, z4, F5, N5⟩ := rx_copyT hnm (m + 1) g2.U.2 (e := j + 1 + sz (tU 10 g a)) (by rw [sz_U]; omega) N4 (by simp; omega)
      rw [show m + 1 + 1 = q by omega] at z3 z4
      refine ⟨M5, ?_, F4.trans F5, ?_⟩
      · unfold T_X11_steps_0
        have z1' : f_X11_writes q 89 9 (nI v) M3 = some ((), M4) := z1
        simp (disch := omega) only [↓reduceIte, ↓gd_pos (fO_R hW), ↓bnd2_of (show cal (q + 1) (fun zz => f_X11_firstRedex zz 89 M) = _ from y0), nI_ne_m1, ↓bnd2_of (show cal (q + 1) (fun zz => f_X11_redexAt zz 89 (nI j) M) = _ from y1), ↓bnd2_of (show cal (q + 1) (fun zz => f_X11_asked zz 89 M) = _ from y2), ↓gd_pos (fO_R hW1), ↓bnd2_of (show cal (q + 1) (fun zz => f_X11_willBe zz 89 (nI j) (nI 7) M1) = _ from y3), show (200 : Int32) = nI 200 from rfl, nI_le_, eq_true h200, ↓bnd2_of (show cal (q + 1) (fun zz => f_X11_behind zz 89 (nI j) M1) = _ from y4), ↓bnd2_of (show cal (q + 1) (fun zz => f_X11_copies zz 89 0 (nI j) 0 0 (wI M1 89 25 0)) = _ from y5), ↓gd_pos (fO_R hW3), show (nI 7 = (1 : Int32)) = False from eq_false (by decide), show (nI 7 = (2 : Int32)) = False from eq_false (by decide), show (nI 7 = (3 : Int32)) = False from eq_false (by decide), show (nI 7 = (4 : Int32)) = False from eq_false (by decide), show (nI 7 = (5 : Int32)) = False from eq_false (by decide), show (nI 7 = (6 : Int32)) = False from eq_false (by decide), ↓bnd_of (r_89_40 hW3), ↓gd_pos hA13, nI_z, v2, ↓bnd2_of (show cal (q + 1) (fun zz => f_X11_writes zz 89 9 (nI v) M3) = _ from z1'), ↓gd_pos (fO_R N4.1), nI_1, ↓bnd2_of (show cal (q + 1) (fun zz => f_X11_inner zz 89 (nI (j + 1)) 0 M4) = _ from z2), ↓bnd2_of (show cal (q + 1) (fun zz => f_X11_behind zz 89 (nI (j + 1)) M4) = _ from z3), ↓bnd2_of (show cal (q + 1) (fun zz => f_X11_copies zz 89 (nI (j + 1 + 1)) (nI (j + 1 + sz (tU 10 g a))) 0 0 M4) = _ from z4)]
      · rw [rws_U]
        simpa using N5
    rcases hsh with ⟨v, rfl⟩ | ⟨o, f, ho, rfl⟩ | ⟨x1, z1, rfl⟩
    · exact fn hs.2.1.2 hS.B.2.1
    · exact fn hs.2.2 hS.U.2
    · exact fn hs.1.2 hS.C.2.1
end RSA
