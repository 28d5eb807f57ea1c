/-! LINES, LINE, LINEBYTE in the reference -/
section RL3
variable {M M1 : Mem} {c : Nat} {H : List (Nat × Fm)} {gf : Fm} {T : Nat → Option Tm} {CI : Fm → Prop} {K : Nat} {tl : Nat → Fm}
set_option maxHeartbeats 2000000 in
theorem rx_lnS (h : RfS M c H gf T CI K) (hA : OkA CI H gf T) (hK : 8191 ≤ K) (h8 : M.2.2.1 89 8 = 0) (k : Nat) (x1 : Int32) :
    ((∀ s, s < 4 → x1 ≠ nI s) → ∀ x2 x3, f_X11_lines (k + 407) 89 x1 M = some (-2, wI M 89 0 0) ∧ f_X11_line (k + 407) 89 x1 x2 x3 M = some (-2, wI M 89 0 0) ∧ f_X11_lineByte (k + 407) 89 x1 x2 x3 M = some (-2, wI M 89 0 0)) ∧ ∀ s, s < 4 → x1 = nI s →
    (T s = none → ∀ x2 x3, f_X11_lines (k + 407) 89 x1 M = some (-5, wI M 89 0 0) ∧ f_X11_line (k + 407) 89 x1 x2 x3 M = some (-5, wI M 89 0 0) ∧ f_X11_lineByte (k + 407) 89 x1 x2 x3 M = some (-5, wI M 89 0 0)) ∧ ∀ t x, T s = some t → Wc (OkF CI) H.length (hF H) t 0 gN 0 x → Wt (fun i y => tl i = y) H.length (hF H) t 0 gN 0 x →
    ∃ M1 c1, Fr SLl M M1 ∧ RfS M1 c1 H gf T CI 8191 ∧ WkG M1 c1 CI 0 ∧ f_X11_lines (k + 407) 89 x1 M = some (nI (lnA H tl t).length, M1) ∧
      (∀ x2 x3, ((∀ j, j < (lnA H tl t).length → x2 ≠ nI j) ∨ ∀ j, j ≤ 4 → x3 ≠ nI j) → f_X11_line (k + 407) 89 x1 x2 x3 M = some (-2, M1)) ∧
      (∀ j w, j < (lnA H tl t).length → w ≤ 4 → f_X11_line (k + 407) 89 x1 (nI j) (nI w) M = some (LnV (lnA H tl t) j w, M1)) ∧
      (∀ x2 x3, (∀ j, j < (lnA H tl t).length → x2 ≠ nI j) → f_X11_lineByte (k + 407) 89 x1 x2 x3 M = some (-2, M1)) ∧
      (∀ j x3, j < (lnA H tl t).length → ¬ 0 ≤ x3 → f_X11_lineByte (k + 407) 89 x1 (nI j) x3 M = some (-3, M1)) ∧
      ∀ j q en, q < 2147483648 → (lnA H tl t)[j]? = some en → dpf en.2.1 ≤ 200 → blen en.2.1 ≤ 4800000000 → ∃ M2, f_X11_lineByte (k + 407) 89 x1 (nI j) (nI q) M = some (gtN (fsp en.2.1) q, M2) ∧ Fr SBg M1 M2 := by
  have hW := h.1
  have F0 : Fr SLl M (wI M 89 0 0) := Fr.refl.wI (by unfold SLl SSi SSu; omega) _
  have F0' : Fr (fun a k => a = 89 ∧ k = 0) M (wI M 89 0 0) := Fr.refl.wI ⟨rfl, rfl⟩ _
  have h0 : RfS (wI M 89 0 0) c H gf T CI K := h.w F0' (fun a k q => by omega)
  have hW0 := h0.1
  obtain ⟨n, hn⟩ : ∃ n, n = k + 406 := ⟨_, rfl⟩
  obtain ⟨a1, a2⟩ := rx_isSlot (M := wI M 89 0 0) (k + 405) x1
  rw [show k + 405 + 1 = n by omega] at a1 a2
  have hO := fO_R hW
  have hO0 := fO_R hW0
  have une : ((1 : Int32) = 0) = False := eq_false (by decide)
  have h80 : (wI M 89 0 0).2.2.1 89 8 = 0 := by simp [up2_if]; exact h8
  have e1 : ∀ x1, f_X11_lines (n + 1) 89 x1 M = T_X11_lines_0 (fun v M => some (v, M)) none (n + 1) 89 x1 M := fun _ => rfl
  have e2 : ∀ x1 x2 x3, f_X11_line (n + 1) 89 x1 x2 x3 M = T_X11_line_0 (fun v M => some (v, M)) none (n + 1) 89 x1 x2 x3 M := fun _ _ _ => rfl
  have e3 : ∀ x1 x2 x3, f_X11_lineByte (n + 1) 89 x1 x2 x3 M = T_X11_lineByte_0 (fun v M => some (v, M)) none (n + 1) 89 x1 x2 x3 M := fun _ _ _ => rfl
  rw [show k + 407 = n + 1 by omega]
  refine ⟨fun hx x2 x3 => ?_, fun s hs hx1 => ?_⟩
  · have e := a2 hx
    refine ⟨?_, ?_, ?_⟩
    · rw [e1]; unfold T_X11_lines_0
      simp only [↓reduceIte, ↓gd_pos hO, ↓bnd2_of (show cal (n + 1) (fun zz => f_X11_isSlot zz x1 (wI M 89 0 0)) = _ from e)]
    · rw [e2]; unfold T_X11_line_0
      simp only [↓reduceIte, ↓gd_pos hO, ↓bnd2_of (show cal (n + 1) (fun zz => f_X11_isSlot zz x1 (wI M 89 0 0)) = _ from e)]
    · rw [e3]; unfold T_X11_lineByte_0
      simp only [↓reduceIte, ↓gd_pos hO, ↓bnd2_of (show cal (n + 1) (fun zz => f_X11_isSlot zz x1 (wI M 89 0 0)) = _ from e)]
  · have e := a1 s hs hx1
    subst hx1
    refine ⟨fun hN x2 x3 => ?_, fun t x hTs hw htl => ?_⟩
    · have ev := rx_void h0 hs hN n
      refine ⟨?_, ?_, ?_⟩
      · rw [e1]; unfold T_X11_lines_0
        simp only [↓reduceIte, ↓gd_pos hO, ↓gd_pos hO0, ↓bnd2_of (show cal (n + 1) (fun zz => f_X11_isSlot zz (nI s) (wI M 89 0 0)) = _ from e), une, ↓bnd2_of (show cal (n + 1) (fun zz => f_X11_isEmpty zz 89 (nI s) (wI M 89 0 0)) = _ from ev)]
      · rw [e2]; unfold T_X11_line_0
        simp only [↓reduceIte, ↓gd_pos hO, ↓gd_pos hO0, ↓bnd2_of (show cal (n + 1) (fun zz => f_X11_isSlot zz (nI s) (wI M 89 0 0)) = _ from e), une, ↓bnd2_of (show cal (n + 1) (fun zz => f_X11_isEmpty zz 89 (nI s) (wI M 89 0 0)) = _ from ev)]
      · rw [e3]; unfold T_X11_lineByte_0
        simp only [↓reduceIte, ↓gd_pos hO, ↓gd_pos hO0, ↓bnd2_of (show cal (n + 1) (fun zz => f_X11_isSlot zz (nI s) (wI M 89 0 0)) = _ from e), une, ↓bnd2_of (show cal (n + 1) (fun zz => f_X11_isEmpty zz 89 (nI s) (wI M 89 0 0)) = _ from ev)]
    · obtain ⟨ht, h2, hlb⟩ := hA.2.2.2 s t hs hTs
      have ev := rx_filled h0 hs ht h2 hTs n
      obtain ⟨M1, c1, y1, F1, R1, W1, N1⟩ := rx_laysLines (tl := tl) h0 hA hK h80 hs hTs hw htl k
      rw [← hn] at y1
      have hW1 := R1.1
      have hO1 := fO_R hW1
      obtain ⟨acc, hacc⟩ : ∃ acc, acc = lnA H tl t := ⟨_, rfl⟩
      rw [← hacc] at N1 ⊢
      have hl := N1.2.1
      have g56 := N1.1
      refine ⟨M1, c1, F0.trans F1, R1, W1, ?_, fun x2 x3 hx => ?_, fun j w hj hw4 => ?_, fun x2 x3 hx => ?_, fun j x3 hj hx3 => ?_, fun j q en hq hen hdp hbl => ?_⟩
      · rw [e1]; unfold T_X11_lines_0
        simp only [↓reduceIte, ↓gd_pos hO, ↓gd_pos hO0, ↓bnd2_of (show cal (n + 1) (fun zz => f_X11_isSlot zz (nI s) (wI M 89 0 0)) = _ from e), une, ↓bnd2_of (show cal (n + 1) (fun zz => f_X11_isEmpty zz 89 (nI s) (wI M 89 0 0)) = _ from ev), ↓bnd2_of (show cal (n + 1) (fun zz => f_X11_laysLines zz 89 (nI s) (wI M 89 0 0)) = _ from y1), ↓gd_pos hO1, g56]
      · obtain ⟨i1, i2⟩ := rx_isLen (M := M1) n (n := acc.length) (by omega) x2
        obtain ⟨t1, t2⟩ := rx_isTo (M := M1) n (n := 4) (by omega) (hi := 4) (by decide) x3
        rw [e2]; unfold T_X11_line_0
        rcases in_len (x := x2) (n := acc.length) (by omega) with ⟨j, hj, ej⟩ | ⟨hno, -⟩
        · have z1 := i1 j hj ej
          have z2 := t2 (by
            rcases hx with hx | hx
            · exact absurd ej (hx j hj)
            · exact hx)
          simp only [↓reduceIte, ↓gd_pos hO, ↓gd_pos hO0, ↓bnd2_of (show cal (n + 1) (fun zz => f_X11_isSlot zz (nI s) (wI M 89 0 0)) = _ from e), une, ↓bnd2_of (show cal (n + 1) (fun zz => f_X11_isEmpty zz 89 (nI s) (wI M 89 0 0)) = _ from ev), ↓bnd2_of (show cal (n + 1) (fun zz => f_X11_laysLines zz 89 (nI s) (wI M 89 0 0)) = _ from y1), ↓gd_pos hO1, g56, ↓bnd2_of (show cal (n + 1) (fun zz => f_X11_isIn zz (Int32.toInt64 x2) 0 (Int32.toInt64 (nI acc.length - 1)) M1) = _ from z1), ↓bnd2_of (show cal (n + 1) (fun zz => f_X11_isIn zz (Int32.toInt64 x3) 0 4 M1) = _ from z2)]
        · have z1 := i2 hno
          simp only [↓reduceIte, ↓gd_pos hO, ↓gd_pos hO0, ↓bnd2_of (show cal (n + 1) (fun zz => f_X11_isSlot zz (nI s) (wI M 89 0 0)) = _ from e), une, ↓bnd2_of (show cal (n + 1) (fun zz => f_X11_isEmpty zz 89 (nI s) (wI M 89 0 0)) = _ from ev), ↓bnd2_of (show cal (n + 1) (fun zz => f_X11_laysLines zz 89 (nI s) (wI M 89 0 0)) = _ from y1), ↓gd_pos hO1, g56, ↓bnd2_of (show cal (n + 1) (fun zz => f_X11_isIn zz (Int32.toInt64 x2) 0 (Int32.toInt64 (nI acc.length - 1)) M1) = _ from z1)]
      · obtain ⟨i1, -⟩ := rx_isLen (M := M1) n (n := acc.length) (by omega) (nI j)
        obtain ⟨t1, -⟩ := rx_isTo (M := M1) n (n := 4) (by omega) (hi := 4) (by decide) (nI w)
        have z1 := i1 j hj rfl
        have z2 := t1 w hw4 rfl
        obtain ⟨en, hen⟩ : ∃ en, acc[j]? = some en := ⟨_, List.getElem?_eq_getElem hj⟩
        obtain ⟨b1, -, b3, b4⟩ := N1.2.2 j en hen
        rw [LnV_at hen]
        have f8 := fA_R hW1 (a := 118) (by omega) (s_118 hW1) (show j < 620 by omega) (by omega)
        have f21 := fA_R hW1 (a := 121) (by omega) (s_121 hW1) (show j < 620 by omega) (by omega)
        rw [e2]; unfold T_X11_line_0
        by_cases w0 : w = 0
        · have q0 : (nI w = (0 : Int32)) = True := eq_true (by rw [w0]; rfl)
          rw [if_pos w0]
          simp (disch := omega) only [↓reduceIte, ↓gd_pos hO, ↓gd_pos hO0, ↓bnd2_of (show cal (n + 1) (fun zz => f_X11_isSlot zz (nI s) (wI M 89 0 0)) = _ from e), une, ↓bnd2_of (show cal (n + 1) (fun zz => f_X11_isEmpty zz 89 (nI s) (wI M 89 0 0)) = _ from ev), ↓bnd2_of (show cal (n + 1) (fun zz => f_X11_laysLines zz 89 (nI s) (wI M 89 0 0)) = _ from y1), ↓gd_pos hO1, g56, ↓bnd2_of (show cal (n + 1) (fun zz => f_X11_isIn zz (Int32.toInt64 (nI j)) 0 (Int32.toInt64 (nI acc.length - 1)) M1) = _ from z1), ↓bnd2_of (show cal (n + 1) (fun zz => f_X11_isIn zz (Int32.toInt64 (nI w)) 0 4 M1) = _ from z2), q0, ↓bnd_of (r_89_51 hW1), ↓gd_pos f8, nI_z, b1]
        · have q0 : (nI w = (0 : Int32)) = False := eq_false (fun z => w0 ((nI_eq (b := 0) (by omega) (by omega)).mp z))
          rw [if_neg w0]
          by_cases w4 : w = 4
          · have q4 : (nI w = (4 : Int32)) = True := eq_true (by rw [w4]; rfl)
            rw [if_pos w4]
            simp (disch := omega) only [↓reduceIte, ↓gd_pos hO, ↓gd_pos hO0, ↓bnd2_of (show cal (n + 1) (fun zz => f_X11_isSlot zz (nI s) (wI M 89 0 0)) = _ from e), une, ↓bnd2_of (show cal (n + 1) (fun zz => f_X11_isEmpty zz 89 (nI s) (wI M 89 0 0)) = _ from ev), ↓bnd2_of (show cal (n + 1) (fun zz => f_X11_laysLines zz 89 (nI s) (wI M 89 0 0)) = _ from y1), ↓gd_pos hO1, g56, ↓bnd2_of (show cal (n + 1) (fun zz => f_X11_isIn zz (Int32.toInt64 (nI j)) 0 (Int32.toInt64 (nI acc.length - 1)) M1) = _ from z1), ↓bnd2_of (show cal (n + 1) (fun zz => f_X11_isIn zz (Int32.toInt64 (nI w)) 0 4 M1) = _ from z2), q0, q4, ↓bnd_of (r_89_54 hW1), ↓gd_pos f21, nI_z, b3]
          · have q4 : (nI w = (4 : Int32)) = False := eq_false (fun z => w4 ((nI_eq (b := 4) (by omega) (by omega)).mp z))
            have ei : 3 * nI j + nI w - 1 = nI (3 * j + (w - 1)) := by
              rw [show (3 : Int32) = nI 3 from rfl, nI_mul, nI_add]
              have := nI_sub (a := 3 * j + w) (b := 1) (by omega) (by omega)
              rw [show 3 * j + (w - 1) = 3 * j + w - 1 by omega]
              exact this
            have f20 := fA_R hW1 (a := 120) (by omega) (s_120 hW1) (show 3 * j + (w - 1) < 1860 by omega) (by omega)
            have b5 := b4 (w - 1) (by omega)
            rw [if_neg w4]
            simp (disch := omega) only [↓reduceIte, ↓gd_pos hO, ↓gd_pos hO0, ↓bnd2_of (show cal (n + 1) (fun zz => f_X11_isSlot zz (nI s) (wI M 89 0 0)) = _ from e), une, ↓bnd2_of (show cal (n + 1) (fun zz => f_X11_isEmpty zz 89 (nI s) (wI M 89 0 0)) = _ from ev), ↓bnd2_of (show cal (n + 1) (fun zz => f_X11_laysLines zz 89 (nI s) (wI M 89 0 0)) = _ from y1), ↓gd_pos hO1, g56, ↓bnd2_of (show cal (n + 1) (fun zz => f_X11_isIn zz (Int32.toInt64 (nI j)) 0 (Int32.toInt64 (nI acc.length - 1)) M1) = _ from z1), ↓bnd2_of (show cal (n + 1) (fun zz => f_X11_isIn zz (Int32.toInt64 (nI w)) 0 4 M1) = _ from z2), q0, q4, ↓bnd_of (r_89_53 hW1), ei, ↓gd_pos f20, nI_z, b5]
      · have z1 := (rx_isLen (M := M1) n (n := acc.length) (by omega) x2).2 hx
        rw [e3]; unfold T_X11_lineByte_0
        simp only [↓reduceIte, ↓gd_pos hO, ↓gd_pos hO0, ↓bnd2_of (show cal (n + 1) (fun zz => f_X11_isSlot zz (nI s) (wI M 89 0 0)) = _ from e), une, ↓bnd2_of (show cal (n + 1) (fun zz => f_X11_isEmpty zz 89 (nI s) (wI M 89 0 0)) = _ from ev), ↓bnd2_of (show cal (n + 1) (fun zz => f_X11_laysLines zz 89 (nI s) (wI M 89 0 0)) = _ from y1), ↓gd_pos hO1, g56, ↓bnd2_of (show cal (n + 1) (fun zz => f_X11_isIn zz (Int32.toInt64 x2) 0 (Int32.toInt64 (nI acc.length - 1)) M1) = _ from z1)]
      · have z1 := (rx_isLen (M := M1) n (n := acc.length) (by omega) (nI j)).1 j hj rfl
        rw [e3]; unfold T_X11_lineByte_0
        simp only [↓reduceIte, ↓gd_pos hO, ↓gd_pos hO0, ↓bnd2_of (show cal (n + 1) (fun zz => f_X11_isSlot zz (nI s) (wI M 89 0 0)) = _ from e), une, ↓bnd2_of (show cal (n + 1) (fun zz => f_X11_isEmpty zz 89 (nI s) (wI M 89 0 0)) = _ from ev), ↓bnd2_of (show cal (n + 1) (fun zz => f_X11_laysLines zz 89 (nI s) (wI M 89 0 0)) = _ from y1), ↓gd_pos hO1, g56, ↓bnd2_of (show cal (n + 1) (fun zz => f_X11_isIn zz (Int32.toInt64 (nI j)) 0 (Int32.toInt64 (nI acc.length - 1)) M1) = _ from z1), hx3]
      · have hj : j < acc.length := by
          apply Nat.lt_of_not_le
          intro g
          rw [List.getElem?_eq_none g] at hen
          cases hen
        have z1 := (rx_isLen (M := M1) n (n := acc.length) (by omega) (nI j)).1 j hj rfl
        obtain ⟨-, ⟨v, v1, v2, v3⟩, -, -⟩ := N1.2.2 j en hen
        obtain ⟨M2, y2, F2, S2⟩ := TlS.beg hW1 n (q := q) (Or.inl hq)
        have hW2 := F2.Wd hW1
        obtain ⟨T2, d2⟩ := tabR_mv R1.2.1 F2 (by unfold SBg; omega) (fun a k q => by unfold SBg at q; omega)
        have hc1 := R1.2.1.2.1
        have qb : QB (fsp en.2.1) := by
          rw [← v3]
          exact fsp_QB R1.2.1.2.2.1 (by omega) v v1
        have hlen : (fsp en.2.1).length = blen en.2.1 := by
          rw [← v3]
          exact (fsp_len R1.2.1.2.2.1 (by omega) v v1).1
        have e0 : spB [] ++ fsp en.2.1 = fsp en.2.1 := rfl
        obtain ⟨M3, y3, F3, S3⟩ := TlS.frm (q := q) 200 (n - 207) v c1 M2 [] hW2 T2 v1 (by rw [d2, v3]; exact hdp) S2 (by rw [d2, v3, e0]; exact tcn_q qb (by omega))
        rw [show 200 + 7 + (n - 207) = n by omega] at y3
        rw [d2, v3, e0] at S3
        have ea := S3.ans hq
        have hW3 := F3.Wd hW2
        have g119 : M2.2.2.1 119 j = nI v := (F2.int (by unfold SBg; omega)).trans v2
        have f19 := fA_R hW2 (a := 119) (by omega) (s_119 hW2) (show j < 620 by omega) (by omega)
        have hge : ((0 : Int32) ≤ nI q) = True := eq_true (by rw [show (0 : Int32) = nI 0 from rfl, nI_le_ (by omega) (by omega)]; omega)
        refine ⟨M3, ?_, F2.trans (F3.mono STq_SBg)⟩
        rw [e3]; unfold T_X11_lineByte_0
        simp (disch := omega) only [↓reduceIte, ↓gd_pos hO, ↓gd_pos hO0, ↓bnd2_of (show cal (n + 1) (fun zz => f_X11_isSlot zz (nI s) (wI M 89 0 0)) = _ from e), une, ↓bnd2_of (show cal (n + 1) (fun zz => f_X11_isEmpty zz 89 (nI s) (wI M 89 0 0)) = _ from ev), ↓bnd2_of (show cal (n + 1) (fun zz => f_X11_laysLines zz 89 (nI s) (wI M 89 0 0)) = _ from y1), ↓gd_pos hO1, g56, ↓bnd2_of (show cal (n + 1) (fun zz => f_X11_isIn zz (Int32.toInt64 (nI j)) 0 (Int32.toInt64 (nI acc.length - 1)) M1) = _ from z1), hge, ↓bnd2_of (show cal (n + 1) (fun zz => f_X11_begins0 zz 89 (nI q) M1) = _ from y2), ↓gd_pos (fO_R hW2), ↓bnd_of (r_89_52 hW2), ↓gd_pos f19, nI_z, g119, ↓bnd2_of (show cal (n + 1) (fun zz => f_X11_tellsFormula zz 89 (nI v) M2) = _ from y3), ↓gd_pos (fO_R hW3), ea]
end RL3
