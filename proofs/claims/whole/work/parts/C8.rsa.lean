/-! A STEP in the reference: all of it but tidying, put together -/
theorem cn1_le {lv : Nat} : ∀ t, isT t → cn1 lv t ≤ sz t := by
  apply tm_ind
  · intro k
    show (if k = lv then 1 else 0) ≤ 1
    split <;> omega
  · intro k; exact Nat.zero_le _
  · intro o f a _ _ ih; rw [sz_U]; show cn1 lv a ≤ _; omega
  · intro o a b _ _ _ ia ib; rw [sz_B]; show cn1 lv a + cn1 lv b ≤ _; omega
  · intro m a b _ _ _ im ia ib; rw [sz_C]; show cn1 lv m + cn1 lv a + cn1 lv b ≤ _; omega
section RSB
variable {c : Nat} {Hl : List (Nat × Fm)} {CI : Fm → Prop}
set_option maxHeartbeats 2000000 in
theorem rx_stepsA {M : Mem} {t : Tm} {x : Fm} (hW : Wd M) (hT : TabR M c) (ht : isT t) (hR : WrkR M c (rws t)) (hH : HyS M c Hl) (h2 : sz t ≤ 200) (hw : Wc CI Hl.length (hF Hl) t 0 gN 0 x) {c0 : Nat} (hN : NewR M c c0 CI) (hcap : HCp c0 CI) (k : Nat) :
    (frx (rws t) (sz t) 0 = none → f_X11_steps (k + 406) 89 M = some (0, M)) ∧ ∀ kd t', StT Hl.length (hF Hl) t kd t' →
    (200 < sz t' → ∃ M1 c1, f_X11_steps (k + 406) 89 M = some (-4, M1) ∧ Fr SSp M M1 ∧ PsE M c M1 c1 c0 CI ∧ WrkR M1 c1 (rws t)) ∧
    (sz t' ≤ 200 → ∃ M1 c1, (∀ M2, f_X11_tidies (k + 405) 89 M1 = some ((), M2) → f_X11_steps (k + 406) 89 M = some (nI kd, M2)) ∧ Fr SSp M M1 ∧ PsE M c M1 c1 c0 CI ∧ WrkR M1 c1 (rws t')) := by
  obtain ⟨q, hq⟩ : ∃ q, q = k + 405 := ⟨_, rfl⟩
  have y0 := rx_firstRedex hW ht hR (k + 403)
  rw [show k + 403 + 2 = q by omega] at y0
  rw [show k + 406 = q + 1 by omega]
  refine ⟨fun h0 => ?_, fun kd t' hst => ?_⟩
  · rw [h0] at y0
    have y0' : f_X11_firstRedex q 89 M = some (-1, M) := y0
    refine (ge_X11_steps_0 (q + 1) 89 M).trans ?_
    unfold T_X11_steps_0
    simp only [↓reduceIte, ↓gd_pos (fO_R hW), ↓bnd2_of (show cal (q + 1) (fun zz => f_X11_firstRedex zz 89 M) = _ from y0')]
  · obtain ⟨j, s, e, Gs, y, s', K, x1, h1, h3, h4, h5, h6, h7, h8, h9, h10, h11, rfl⟩ := hst
    cases Wt.fn t ht hw h8
    rw [h1] at y0
    have y0' : f_X11_firstRedex q 89 M = some (nI j, M) := y0
    obtain ⟨X, Y, hX, hXl, hK⟩ := h7.2.1
    rw [Nat.zero_add] at hXl
    have hS := h6.sb ht Sb.self
    have hle := hS.le
    rw [rws_len] at hle
    have hps := sz_pos s h5
    have hjl : j < (rws t).length := by rw [rws_len]; omega
    have y1 := rx_redexAt hW hR (k + 404) (i := j) hjl (nxt_in ht hjl)
    rw [h3, show k + 404 + 1 = q by omega] at y1
    have hsco := hw.sco hH.1 t ht
    have hnm : ∀ nd, nd ∈ rws t → nmB nd := scp_nm t ht hsco.1 (by omega)
    obtain ⟨u, c1, M1, y2, B1, u1, u2, u3, u4, u5, u6, u7⟩ := rx_asked hW hT ht hR hH h2 hw hN hcap k
    rw [← hq] at y2
    have hWa : Wd (wI (wI M 89 30 0) 89 43 0) := (hW.wI _ _ _).wI _ _ _
    have hW1 := B1.wd hWa
    have hR1 : WrkR M1 c1 (rws t) := B1.wr hR
    have hD := h6.dp ht u7
    have h114 : M1.2.2.1 114 j = nI e := by
      rcases ort_cs s h5 with ⟨⟨v, q1 | q1⟩, -⟩ | ⟨o, f, a, q1, -⟩ | ⟨o, a, b, q1, -⟩ | ⟨m, a, b, q1, -⟩
      · subst q1; exact hD
      · subst q1; exact hD
      · subst q1; exact hD.1
      · subst q1; exact hD.1
      · subst q1; exact hD.1
    have he := h6.le ht (Nat.le_refl _)
    have y3 := rx_willBe hW1 hR1 hnm (k + 401) h5 hS h11 (by omega) h114 (by rw [rws_len]; exact h2)
    rw [rws_len, show k + 401 + 4 = q by omega] at y3
    have hsz : sz t - sz s + sz s' = sz (K s') := by
      have a1 : sz t = X.length + (sz s + Y.length) := by
        unfold sz
        rw [hX]
        simp only [List.length_append]
      have a2 : sz (K s') = X.length + (sz s' + Y.length) := by
        unfold sz
        rw [hK s']
        simp only [List.length_append]
      omega
    have Fa : Fr SSp M M1 := ((Fr.refl.wI (a := 89) (k := 30) (by unfold SSp; omega) 0).wI (a := 89) (k := 43) (by unfold SSp; omega) 0).trans (B1.1.mono (fun a k q => by unfold SAq at q; unfold SSp; rcases q with q | q; exact Or.inl q; omega))
    have P1 : PsE M c M1 c1 c0 CI := ⟨B1.2.1, B1.2.2.1, B1.2.2.2.2, u3⟩
    refine ⟨fun hbig => ?_, fun hfit => ?_⟩
    · refine ⟨M1, c1, ?_, Fa, P1, hR1⟩
      refine (ge_X11_steps_0 (q + 1) 89 M).trans ?_
      unfold T_X11_steps_0
      have hkn : sz t - sz s + sz s' < 1000000 := by
        have b1 : sz (K s') < 1000000 := by
          have := h11
          have szs : sz s' ≤ 200 + 200 * 200 + 600 := by
            rcases h11 with ⟨-, f, a, w, rfl, rfl⟩ | ⟨-, f, a, b, rfl, rfl⟩ | ⟨-, f, a, b, rfl, rfl⟩ | ⟨-, f, a, v, z, rfl, rfl⟩ | ⟨-, f, a, v, z, rfl, rfl⟩ | ⟨-, m, a, b, ⟨w, rfl, rfl⟩ | ⟨o, f, ho, rfl, rfl⟩ | ⟨v, z, rfl, rfl⟩⟩ | ⟨-, g, a, rfl, ⟨w, rfl⟩ | ⟨o, f, ho, rfl⟩ | ⟨v, z, rfl⟩⟩
            · have a1 := sz_sbs (lv := e) h5.2.2 a h5.2.1.2 (e + 1)
              rw [sz_B, sz_U] at hle
              have a2 := cn1_le (lv := e) a h5.2.1.2
              have a3 : cn1 e a * sz w ≤ 200 * 200 := Nat.mul_le_mul (by omega) (by omega)
              omega
            · rw [sz_U, sz_B] at hle; omega
            · rw [sz_U, sz_B] at hle; omega
            · have a1 := sz_sbs (lv := e) h5.1.2 v h5.2.1 (e + 1)
              rw [sz_C, sz_U] at hle
              have a2 := cn1_le (lv := e) v h5.2.1
              have a3 : cn1 e v * sz a ≤ 200 * 200 := Nat.mul_le_mul (by omega) (by omega)
              omega
            · have a1 := sz_sbs (lv := e) h5.1.2 z h5.2.2 (e + 1)
              rw [sz_C, sz_U] at hle
              have a2 := cn1_le (lv := e) z h5.2.2
              have a3 : cn1 e z * sz a ≤ 200 * 200 := Nat.mul_le_mul (by omega) (by omega)
              omega
            · rw [sz_C, sz_B, sz_B, sz_lft w h5.2.2]
              rw [sz_B, sz_C] at hle
              omega
            · rw [sz_C, sz_U, sz_U]
              rw [sz_U, sz_C] at hle
              omega
            · rw [sz_C (m := m), sz_C (m := a), sz_C (m := b), sz_lft v h5.2.1, sz_lft z h5.2.2]
              rw [sz_C (m := tC m a b), sz_C (m := m)] at hle
              omega
            · rw [sz_U]; rw [sz_B, sz_U] at hle; omega
            · rw [sz_U]; rw [sz_U, sz_U] at hle; omega
            · rw [sz_U]; rw [sz_C, sz_U] at hle; omega
          omega
        omega
      simp (disch := omega) only [↓reduceIte, ↓gd_pos (fO_R hW), ↓bnd2_of (show cal (q + 1) (fun zz => f_X11_firstRedex zz 89 M) = _ from y0'), nI_ne_m1, ↓bnd2_of (show cal (q + 1) (fun zz => f_X11_redexAt zz 89 (nI j) M) = _ from y1), ↓bnd2_of (show cal (q + 1) (fun zz => f_X11_asked zz 89 M) = _ from y2), ↓gd_pos (fO_R hW1), ↓bnd2_of (show cal (q + 1) (fun zz => f_X11_willBe zz 89 (nI j) (nI kd) M1) = _ from y3), show (200 : Int32) = nI 200 from rfl, nI_le_, eq_false (show ¬ sz t - sz s + sz s' ≤ 200 by omega)]
    · have y4 := rx_behind hW1 hR1 (k + 404) h5 hS
      have hWb : Wd (wI M1 89 25 0) := hW1.wI _ _ _
      have N0 : NwS (wI M1 89 25 0) c1 (rws t) [] := ⟨hWb, hR1, by simp [up2_if]; rfl, by simp, fun nd q => by simp at q, fun i nd q => by simp at q⟩
      obtain ⟨M3, y5, F3, N3⟩ := rx_copies hnm (k + 404) (i := 0) (e := j) (lv := 0) (w := 0) (by omega) (by omega) (by omega) N0 (by simp; omega)
      rw [show k + 404 + 1 = q by omega] at y4 y5
      have a1 : List.take j (rws t) = X := by rw [hX, ← hXl, List.take_append_of_le_length (Nat.le_refl _), List.take_length]
      rw [map_00, Nat.sub_zero, List.drop_zero, a1, List.nil_append] at N3
      have F13 : Fr SNw M1 M3 := (Fr.refl.wI (a := 89) (k := 25) (by unfold SNw; omega) 0).trans F3
      have d13 : dR M3 = dR M1 := dR_nw F13
      obtain ⟨M4, y6, F4, N4⟩ := rx_sw hW hW1 h5 hS h11 (by omega) h2 hnm (k + 403) q (by omega) y0' y1 y2 y3 (by omega) y4 y5 N3 hXl (hD.congr s h5 (fun i _ _ => F13.int (by unfold SNw; omega))) (fun _ => by
        obtain ⟨v, v1, v2, v3⟩ := (h9 _ u6).root s h5
        exact ⟨v, v1, (F13.int (by unfold SNw; omega)).trans v2, by rw [d13]; exact v3⟩)
      obtain ⟨M5, y7, F5, N5⟩ := rx_copies hnm (k + 404) (i := j + sz s) (e := sz t) (lv := 0) (w := 0) (by rw [rws_len]; omega) (by omega) (by omega) N4 (by rw [List.length_append, rws_len, hXl]; omega)
      rw [show k + 404 + 1 = q by omega] at y7
      have a2 : List.drop (j + sz s) (rws t) = Y := by
        rw [hX, ← List.append_assoc]
        rw [List.drop_append_of_le_length (by rw [List.length_append]; unfold sz; omega), List.drop_eq_nil_of_le (by rw [List.length_append]; unfold sz; omega), List.nil_append]
      have a3 : List.take (sz t - (j + sz s)) Y = Y := by
        rw [show sz t - (j + sz s) = Y.length by unfold sz; rw [hX]; simp only [List.length_append]; omega, List.take_length]
      rw [map_00, a2, a3, List.append_assoc, ← hK s'] at N5
      obtain ⟨M6, y8, F6, R6⟩ := rx_turns N5 q
      have F36 : Fr SSp M1 M6 := ((F13.trans (F4.trans F5)).mono (fun a k q => by unfold SNw at q; unfold SSp; omega)).trans (F6.mono (fun a k q => by unfold STr at q; unfold SSp; omega))
      have F36' : Fr (fun a k => (a = 89 ∧ (k = 24 ∨ k = 25)) ∨ 105 ≤ a) M1 M6 := ((F13.trans (F4.trans F5)).mono (fun a k q => by unfold SNw at q; omega)).trans (F6.mono (fun a k q => by unfold STr at q; omega))
      obtain ⟨T6, d6⟩ := tabR_mv P1.1 F36' (by omega) (fun a k q => by omega)
      refine ⟨M6, c1, fun M7 y9 => ?_, Fa.trans F36, ⟨T6, P1.2.1, fun i hi => (d6 i).trans (P1.2.2.1 i hi), fun i g1 g2 => by rw [d6]; exact u3 i g1 g2⟩, R6⟩
      rw [y6]
      refine (ge_X11_steps_361 (q + 1) 89 (nI kd) (nI (j + sz s)) M4).trans ?_
      unfold T_X11_steps_361
      have h24 : M4.2.2.1 89 24 = nI (sz t) := N4.2.1.1
      have y7' : f_X11_copies q 89 (nI (j + sz s)) (nI (sz t)) 0 0 M4 = some ((), M5) := y7
      rw [← hq] at y9
      simp only [↓gd_pos (fO_R N4.1), h24, ↓bnd2_of (show cal (q + 1) (fun zz => f_X11_copies zz 89 (nI (j + sz s)) (nI (sz t)) 0 0 M4) = _ from y7'), ↓gd_pos (fO_R N5.1), ↓bnd2_of (show cal (q + 1) (fun zz => f_X11_turns zz 89 M5) = _ from y8), ↓gd_pos (fO_R (F6.Wd N5.1)), ↓bnd2_of (show cal (q + 1) (fun zz => f_X11_tidies zz 89 M6) = _ from y9)]
end RSB
