/-! SPELL and LENGTH in the reference -/
def SSw (a k : Nat) : Prop := SSi a k ∨ SBg a k
section RS4
variable {M M1 : Mem} {c q : Nat} {H : List (Nat × Fm)} {gf : Fm} {T : Nat → Option Tm} {CI : Fm → Prop} {K : Nat} {l : List Nat}
theorem TlS.mq {S : Nat → Nat → Prop} (h : TlS M q l) (hF : Fr S M M1) (h1 : ¬ S 89 48) (h2 : ¬ S 89 49) (h3 : ¬ S 89 50) : TlS M1 q l := ⟨(hF.int h1).trans h.1, (hF.int h2).trans h.2.1, (hF.int h3).trans h.2.2.1, h.2.2.2⟩
theorem WrkR.tq {S : Nat → Nat → Prop} {lr : List (Nat × Tm)} (h : WrkR M c lr) (hF : Fr S M M1) (hS : ∀ a k, S a k → a = 89 ∧ k ≠ 24) : WrkR M1 c lr := h.mv (hF.int (fun q => (hS _ _ q).2 rfl)) (hF.ints (fun k q => by have := (hS _ _ q).1; omega)) (hF.ints (fun k q => by have := (hS _ _ q).1; omega)) (fun i _ => by rw [dR_fq hF.q (fun k q => by have := (hS _ _ q).1; omega) (fun k q => by have := (hS _ _ q).1; omega) (fun k q => by have := (hS _ _ q).1; omega)]) (Nat.le_refl _)
set_option maxHeartbeats 1000000 in
theorem rx_tellsSlot (h : RfS M c H gf T CI K) (hA : OkA CI H gf T) (hK : 8191 ≤ K) (h8 : M.2.2.1 89 8 = 0) {s : Nat} (hs : s < 4) {t : Tm} {x : Fm} (hTs : T s = some t) (hw : Wc (OkF CI) H.length (hF H) t 0 gN 0 x) {w : Nat} (hw2 : w ≤ 2) (hq : q < 2147483648 ∨ q = 4294967295) (hb : (slT H t x w).length < 2147483648) (k : Nat) : ∃ M1 c1, f_X11_tellsSlot (k + 412) 89 (nI s) (nI w) (nI q) M = some ((), M1) ∧ Fr SSw M M1 ∧ RfS M1 c1 H gf T CI 8191 ∧ WkG M1 c1 CI 0 ∧ TlS M1 q (slT H t x w) := by
  have hW := h.1
  obtain ⟨ht, h2, hlb⟩ := hA.2.2.2 s t hs hTs
  obtain ⟨n, hn⟩ : ∃ n, n = k + 411 := ⟨_, rfl⟩
  obtain ⟨c1, M1, y1, F1, R1, W1, f1⟩ := rx_takes h hA hK (Or.inl h8) hs hTs (k + 207)
  rw [show k + 207 + 204 = n by omega] at y1
  have R1' : RfS M1 c1 H gf T CI 8191 := ⟨R1.1, R1.2.1, R1.2.2.1, R1.2.2.2.1, R1.2.2.2.2.1, (f1 h8).1⟩
  have hW1 := R1.1
  obtain ⟨M2, y2, F2, S2⟩ := TlS.beg hW1 n hq
  have R2 := R1'.w F2 (fun a k q => by unfold SBg at q; omega)
  have W2 := W1.tq F2 (fun a k q => by unfold SBg at q; omega)
  have hW2 := R2.1
  obtain ⟨M3, hM3⟩ : ∃ M3, M3 = wI M2 89 43 0 := ⟨_, rfl⟩
  have F3 : Fr (fun a k => a = 89 ∧ k = 43) M2 M3 := by rw [hM3]; exact Fr.refl.wI ⟨rfl, rfl⟩ _
  have R3 := R2.w F3 (fun a k q => by omega)
  have W3 := W2.tq F3 (fun a k q => by omega)
  have S3 := S2.mq F3 (by omega) (by omega) (by omega)
  have hW3 := R3.1
  have F13 : Fr SSw M M3 := ((F1.mono (fun a k q => by unfold STk at q; show SSw a k; unfold SSw SSi SSu SSq; rcases q with q | q; exact Or.inl (Or.inr (Or.inl (Or.inr q))); exact Or.inl (Or.inr (Or.inr (Or.inr (Or.inl q)))))).trans (F2.mono (fun a k q => Or.inr q))).trans (F3.mono (fun a k q => by show SSw a k; unfold SSw SSi SSu SSq SSp; exact Or.inl (Or.inr (Or.inl (Or.inl (Or.inr (Or.inl (by omega))))))))
  have ee : f_X11_tellsSlot (n + 1) 89 (nI s) (nI w) (nI q) M = T_X11_tellsSlot_0 (fun v M => some (v, M)) none (n + 1) 89 (nI s) (nI w) (nI q) M := rfl
  rw [show k + 412 = n + 1 by omega, ee]
  have hsco := hw.sco h.2.2.1.2.1 t ht
  by_cases hwe : w = 2
  · rw [slT, if_pos hwe] at hb ⊢
    obtain ⟨u, c2, M4, y4, F4, R4, W4, u1, u2, -, -, -, -⟩ := rx_askedR R3 hA (by omega) ht h2 W3 hw (k + 6)
    rw [show k + 6 + 405 = n by omega] at y4
    have hW4 := R4.1
    have S4 := S3.mq F4 (by unfold SSp SR; omega) (by unfold SSp SR; omega) (by unfold SSp SR; omega)
    have hdx : dpf x ≤ 200 := (hw.root t ht).2
    have e0 : spB [] ++ fsp x = fsp x := rfl
    obtain ⟨M5, y5, F5, S5⟩ := TlS.frm (q := q) 200 (k + 204) u c2 M4 [] hW4 R4.2.1 u1 (by rw [u2]; exact hdx) S4 (by rw [u2, e0]; have := tcn_le (fsp x); omega)
    rw [show 200 + 7 + (k + 204) = n by omega] at y5
    rw [u2, e0] at S5
    have R5 := R4.w F5 (fun a k q => by unfold STq at q; omega)
    have W5 := W4.tq F5 (fun a k q => by unfold STq at q; omega)
    refine ⟨M5, c2, ?_, (F13.trans (F4.mono (fun a k q => Or.inl (Or.inr (Or.inl (Or.inl q)))))).trans (F5.mono (fun a k q => Or.inr (STq_SBg a k q))), R5, WkG_of W5 ⟨ht, h2, hlb⟩, S5⟩
    have hw22 : ((2 : Int32) ≤ nI w) = True := eq_true (by rw [hwe]; decide)
    unfold T_X11_tellsSlot_0
    simp (disch := omega) only [↓gd_pos (fO_R hW), ↓bnd2_of (show cal (n + 1) (fun zz => f_X11_takes zz 89 (nI s) M) = _ from y1), ↓gd_pos (fO_R hW1), ↓bnd2_of (show cal (n + 1) (fun zz => f_X11_begins0 zz 89 (nI q) M1) = _ from y2), ↓gd_pos (fO_R hW2), hw22, ↓reduceIte, ← hM3, ↓bnd2_of (show cal (n + 1) (fun zz => f_X11_asked zz 89 M3) = _ from y4), ↓gd_pos (fO_R hW4), ↓bnd2_of (show cal (n + 1) (fun zz => f_X11_tellsFormula zz 89 (nI u) M4) = _ from y5)]
  · rw [slT, if_neg hwe] at hb ⊢
    have hw22 : ((2 : Int32) ≤ nI w) = False := eq_false (by rw [show (2 : Int32) = nI 2 from rfl, nI_le_ (by omega) (by omega)]; omega)
    have hTt : TtS M3 c1 (rws t) H q 0 [] := ⟨hW3, R3.2.1, W3, R3.2.2.1, by rw [hM3]; simp [up2_if]; rfl, S3⟩
    obtain ⟨M4, y4, F4, h4⟩ := tt_main (pr := w) (by omega) t ht 0 0 (n - (sz t + 210)) M3 [] hsco.2 hsco.1 (by omega) Sb.self (fun nd hm ho => (hlb nd hm ho).2) hTt (by have := tcn_le (tls [] (nps (nmH H) w t 0 []).flatten); omega)
    rw [show sz t + 210 + (n - (sz t + 210)) = n by omega] at y4
    have R4 := R3.w F4 (fun a k q => by unfold STt at q; omega)
    refine ⟨M4, c1, ?_, F13.trans (F4.mono (fun a k q => by unfold STt at q; unfold SSw SSi SSu SSq SSp SBg; rcases q with ⟨q1, q2 | q2 | q2⟩; exact Or.inl (Or.inr (Or.inl (Or.inl (Or.inr (Or.inl (by omega)))))); exact Or.inr (by omega); exact Or.inr (by omega))), R4, WkG_of h4.2.2.1 ⟨ht, h2, hlb⟩, h4.2.2.2.2.2⟩
    by_cases hw0 : w = 0
    · have hw1 : (nI w = (1 : Int32)) = False := eq_false (by rw [hw0]; decide)
      subst hw0
      have y4' : f_X11_tellsTerm n 89 0 0 M3 = some ((), M4) := y4
      unfold T_X11_tellsSlot_0
      simp (disch := omega) only [↓gd_pos (fO_R hW), ↓bnd2_of (show cal (n + 1) (fun zz => f_X11_takes zz 89 (nI s) M) = _ from y1), ↓gd_pos (fO_R hW1), ↓bnd2_of (show cal (n + 1) (fun zz => f_X11_begins0 zz 89 (nI q) M1) = _ from y2), ↓gd_pos (fO_R hW2), hw22, hw1, ↓reduceIte, ← hM3, ↓bnd2_of (show cal (n + 1) (fun zz => f_X11_tellsTerm zz 89 0 0 M3) = _ from y4')]
    · have hw1 : w = 1 := by omega
      subst hw1
      have hw1 : (nI 1 = (1 : Int32)) = True := eq_true rfl
      have y4' : f_X11_tellsTerm n 89 0 1 M3 = some ((), M4) := y4
      unfold T_X11_tellsSlot_0
      simp (disch := omega) only [↓gd_pos (fO_R hW), ↓bnd2_of (show cal (n + 1) (fun zz => f_X11_takes zz 89 (nI s) M) = _ from y1), ↓gd_pos (fO_R hW1), ↓bnd2_of (show cal (n + 1) (fun zz => f_X11_begins0 zz 89 (nI q) M1) = _ from y2), ↓gd_pos (fO_R hW2), hw22, hw1, ↓reduceIte, ← hM3, ↓bnd2_of (show cal (n + 1) (fun zz => f_X11_tellsTerm zz 89 0 1 M3) = _ from y4')]
theorem rx_spell (h : RfS M c H gf T CI K) (hA : OkA CI H gf T) (hK : 8191 ≤ K) (h8 : M.2.2.1 89 8 = 0) (k : Nat) (x1 x2 x3 : Int32) :
    (((∀ s, s < 4 → x1 ≠ nI s) ∨ ∀ j, j ≤ 2 → x2 ≠ nI j) → f_X11_spell (k + 413) 89 x1 x2 x3 M = some (-2, wI M 89 0 0)) ∧ ∀ s w, s < 4 → w ≤ 2 → x1 = nI s → x2 = nI w →
    (¬ 0 ≤ x3 → f_X11_spell (k + 413) 89 x1 x2 x3 M = some (-3, wI M 89 0 0)) ∧ ∀ q, q < 2147483648 → x3 = nI q →
    (T s = none → f_X11_spell (k + 413) 89 x1 x2 x3 M = some (-5, wI M 89 0 0)) ∧ ∀ t x, T s = some t → Wc (OkF CI) H.length (hF H) t 0 gN 0 x → (slT H t x w).length < 2147483648 →
    ∃ M1 c1, f_X11_spell (k + 413) 89 x1 x2 x3 M = some (gtN (slT H t x w) q, M1) ∧ Fr SSw M M1 ∧ RfS M1 c1 H gf T CI 8191 ∧ WkG M1 c1 CI 0 := by
  have hW := h.1
  have F0 : Fr SSw M (wI M 89 0 0) := Fr.refl.wI (by unfold SSw SSi SSu; omega) _
  have F0' : Fr (fun a k => a = 89 ∧ k = 0) M (wI M 89 0 0) := Fr.refl.wI ⟨rfl, rfl⟩ _
  have h0 : RfS (wI M 89 0 0) c H gf T CI K := h.w F0' (fun a k q => by omega)
  have hW0 := h0.1
  obtain ⟨n, hn⟩ : ∃ n, n = k + 412 := ⟨_, rfl⟩
  obtain ⟨a1, a2⟩ := rx_isSlot (M := wI M 89 0 0) (k + 411) x1
  obtain ⟨i1, i2⟩ := rx_isTo (M := wI M 89 0 0) n (n := 2) (by omega) (hi := 2) (by decide) x2
  rw [show k + 411 + 1 = n by omega] at a1 a2
  have hO := fO_R hW
  have hO0 := fO_R hW0
  have une : ((1 : Int32) = 0) = False := eq_false (by decide)
  have ee : f_X11_spell (n + 1) 89 x1 x2 x3 M = T_X11_spell_0 (fun v M => some (v, M)) none (n + 1) 89 x1 x2 x3 M := rfl
  rw [show k + 413 = n + 1 by omega, ee]
  have h80 : (wI M 89 0 0).2.2.1 89 8 = 0 := by simp [up2_if]; exact h8
  refine ⟨fun hx => ?_, fun s w hs hw2 hx1 hx2 => ?_⟩
  · unfold T_X11_spell_0
    rcases slot_cases x1 with ⟨s, hs, hx1⟩ | hn1
    · have e := a1 s hs hx1
      have hx2 : ∀ j, j ≤ 2 → x2 ≠ nI j := by
        rcases hx with g | g
        · exact absurd hx1 (g s hs)
        · exact g
      have e2 := i2 hx2
      simp only [↓gd_pos hO, ↓reduceIte, ↓bnd2_of (show cal (n + 1) (fun zz => f_X11_isSlot zz x1 (wI M 89 0 0)) = _ from e), une, ↓bnd2_of (show cal (n + 1) (fun zz => f_X11_isIn zz (Int32.toInt64 x2) 0 2 (wI M 89 0 0)) = _ from e2)]
    · have e := a2 hn1
      simp only [↓gd_pos hO, ↓reduceIte, ↓bnd2_of (show cal (n + 1) (fun zz => f_X11_isSlot zz x1 (wI M 89 0 0)) = _ from e)]
  · have e := a1 s hs hx1
    have e2 := i1 w hw2 hx2
    subst hx1 hx2
    refine ⟨fun hx => ?_, fun q hq hx3 => ⟨fun hNo => ?_, fun t x hTs hw hb => ?_⟩⟩
    · unfold T_X11_spell_0
      simp only [↓gd_pos hO, ↓reduceIte, ↓bnd2_of (show cal (n + 1) (fun zz => f_X11_isSlot zz (nI s) (wI M 89 0 0)) = _ from e), une, ↓bnd2_of (show cal (n + 1) (fun zz => f_X11_isIn zz (Int32.toInt64 (nI w)) 0 2 (wI M 89 0 0)) = _ from e2), hx]
    · have hx : ((0 : Int32) ≤ x3) = True := eq_true (by rw [hx3, show (0 : Int32) = nI 0 from rfl, nI_le_ (by omega) (by omega)]; omega)
      have e3 := rx_void h0 hs hNo n
      unfold T_X11_spell_0
      simp only [↓gd_pos hO, ↓reduceIte, ↓bnd2_of (show cal (n + 1) (fun zz => f_X11_isSlot zz (nI s) (wI M 89 0 0)) = _ from e), une, ↓bnd2_of (show cal (n + 1) (fun zz => f_X11_isIn zz (Int32.toInt64 (nI w)) 0 2 (wI M 89 0 0)) = _ from e2), hx, ↓gd_pos hO0, ↓bnd2_of (show cal (n + 1) (fun zz => f_X11_isEmpty zz 89 (nI s) (wI M 89 0 0)) = _ from e3)]
    · have hx : ((0 : Int32) ≤ x3) = True := eq_true (by rw [hx3, show (0 : Int32) = nI 0 from rfl, nI_le_ (by omega) (by omega)]; omega)
      obtain ⟨ht, h2, hlb⟩ := hA.2.2.2 s t hs hTs
      have e3 := rx_filled h0 hs ht h2 hTs n
      obtain ⟨M1, c1, y1, F1, R1, W1, S1⟩ := rx_tellsSlot h0 hA hK h80 hs hTs hw hw2 (Or.inl hq) hb k
      rw [← hn] at y1
      subst hx3
      have ea := S1.ans hq
      refine ⟨M1, c1, ?_, F0.trans F1, R1, W1⟩
      unfold T_X11_spell_0
      simp only [↓gd_pos hO, ↓reduceIte, ↓bnd2_of (show cal (n + 1) (fun zz => f_X11_isSlot zz (nI s) (wI M 89 0 0)) = _ from e), une, ↓bnd2_of (show cal (n + 1) (fun zz => f_X11_isIn zz (Int32.toInt64 (nI w)) 0 2 (wI M 89 0 0)) = _ from e2), hx, ↓gd_pos hO0, ↓bnd2_of (show cal (n + 1) (fun zz => f_X11_isEmpty zz 89 (nI s) (wI M 89 0 0)) = _ from e3), ↓bnd2_of (show cal (n + 1) (fun zz => f_X11_tellsSlot zz 89 (nI s) (nI w) (nI q) (wI M 89 0 0)) = _ from y1), ↓gd_pos (fO_R R1.1), ea]
theorem rx_length (h : RfS M c H gf T CI K) (hA : OkA CI H gf T) (hK : 8191 ≤ K) (h8 : M.2.2.1 89 8 = 0) (k : Nat) (x1 x2 : Int32) :
    (((∀ s, s < 4 → x1 ≠ nI s) ∨ ∀ j, j ≤ 2 → x2 ≠ nI j) → f_X11_length (k + 413) 89 x1 x2 M = some (-2, wI M 89 0 0)) ∧ ∀ s w, s < 4 → w ≤ 2 → x1 = nI s → x2 = nI w →
    (T s = none → f_X11_length (k + 413) 89 x1 x2 M = some (-5, wI M 89 0 0)) ∧ ∀ t x, T s = some t → Wc (OkF CI) H.length (hF H) t 0 gN 0 x → (slT H t x w).length < 2147483648 →
    ∃ M1 c1, f_X11_length (k + 413) 89 x1 x2 M = some (nI (slT H t x w).length, M1) ∧ Fr SSw M M1 ∧ RfS M1 c1 H gf T CI 8191 ∧ WkG M1 c1 CI 0 := by
  have hW := h.1
  have F0 : Fr SSw M (wI M 89 0 0) := Fr.refl.wI (by unfold SSw SSi SSu; omega) _
  have F0' : Fr (fun a k => a = 89 ∧ k = 0) M (wI M 89 0 0) := Fr.refl.wI ⟨rfl, rfl⟩ _
  have h0 : RfS (wI M 89 0 0) c H gf T CI K := h.w F0' (fun a k q => by omega)
  have hW0 := h0.1
  obtain ⟨n, hn⟩ : ∃ n, n = k + 412 := ⟨_, rfl⟩
  obtain ⟨a1, a2⟩ := rx_isSlot (M := wI M 89 0 0) (k + 411) x1
  obtain ⟨i1, i2⟩ := rx_isTo (M := wI M 89 0 0) n (n := 2) (by omega) (hi := 2) (by decide) x2
  rw [show k + 411 + 1 = n by omega] at a1 a2
  have hO := fO_R hW
  have hO0 := fO_R hW0
  have une : ((1 : Int32) = 0) = False := eq_false (by decide)
  have ee : f_X11_length (n + 1) 89 x1 x2 M = T_X11_length_0 (fun v M => some (v, M)) none (n + 1) 89 x1 x2 M := rfl
  rw [show k + 413 = n + 1 by omega, ee]
  have h80 : (wI M 89 0 0).2.2.1 89 8 = 0 := by simp [up2_if]; exact h8
  refine ⟨fun hx => ?_, fun s w hs hw2 hx1 hx2 => ?_⟩
  · unfold T_X11_length_0
    rcases slot_cases x1 with ⟨s, hs, hx1⟩ | hn1
    · have e := a1 s hs hx1
      have hx2 : ∀ j, j ≤ 2 → x2 ≠ nI j := by
        rcases hx with g | g
        · exact absurd hx1 (g s hs)
        · exact g
      have e2 := i2 hx2
      simp only [↓gd_pos hO, ↓reduceIte, ↓bnd2_of (show cal (n + 1) (fun zz => f_X11_isSlot zz x1 (wI M 89 0 0)) = _ from e), une, ↓bnd2_of (show cal (n + 1) (fun zz => f_X11_isIn zz (Int32.toInt64 x2) 0 2 (wI M 89 0 0)) = _ from e2)]
    · have e := a2 hn1
      simp only [↓gd_pos hO, ↓reduceIte, ↓bnd2_of (show cal (n + 1) (fun zz => f_X11_isSlot zz x1 (wI M 89 0 0)) = _ from e)]
  · have e := a1 s hs hx1
    have e2 := i1 w hw2 hx2
    subst hx1 hx2
    refine ⟨fun hNo => ?_, fun t x hTs hw hb => ?_⟩
    · have e3 := rx_void h0 hs hNo n
      unfold T_X11_length_0
      simp only [↓gd_pos hO, ↓reduceIte, ↓bnd2_of (show cal (n + 1) (fun zz => f_X11_isSlot zz (nI s) (wI M 89 0 0)) = _ from e), une, ↓bnd2_of (show cal (n + 1) (fun zz => f_X11_isIn zz (Int32.toInt64 (nI w)) 0 2 (wI M 89 0 0)) = _ from e2), ↓gd_pos hO0, ↓bnd2_of (show cal (n + 1) (fun zz => f_X11_isEmpty zz 89 (nI s) (wI M 89 0 0)) = _ from e3)]
    · obtain ⟨ht, h2, hlb⟩ := hA.2.2.2 s t hs hTs
      have e3 := rx_filled h0 hs ht h2 hTs n
      obtain ⟨M1, c1, y1, F1, R1, W1, S1⟩ := rx_tellsSlot h0 hA hK h80 hs hTs hw hw2 (q := 4294967295) (Or.inr rfl) hb k
      rw [← hn] at y1
      have y1' : f_X11_tellsSlot n 89 (nI s) (nI w) (-1) (wI M 89 0 0) = some ((), M1) := y1
      have ea := S1.1
      rw [tcn_s (by omega)] at ea
      refine ⟨M1, c1, ?_, F0.trans F1, R1, W1⟩
      unfold T_X11_length_0
      simp only [↓gd_pos hO, ↓reduceIte, ↓bnd2_of (show cal (n + 1) (fun zz => f_X11_isSlot zz (nI s) (wI M 89 0 0)) = _ from e), une, ↓bnd2_of (show cal (n + 1) (fun zz => f_X11_isIn zz (Int32.toInt64 (nI w)) 0 2 (wI M 89 0 0)) = _ from e2), ↓gd_pos hO0, ↓bnd2_of (show cal (n + 1) (fun zz => f_X11_isEmpty zz 89 (nI s) (wI M 89 0 0)) = _ from e3), ↓bnd2_of (show cal (n + 1) (fun zz => f_X11_tellsSlot zz 89 (nI s) (nI w) (-1) (wI M 89 0 0)) = _ from y1'), ↓gd_pos (fO_R R1.1), ea]
end RS4
