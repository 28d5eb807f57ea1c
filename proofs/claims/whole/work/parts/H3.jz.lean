/-! SIZE, the call, in the reference, and over the invariant -/
def SSz (a k : Nat) : Prop := SSi a k ∨ S95 a k
section RZ3
variable {M M1 : Mem} {c : Nat} {H : List (Nat × Fm)} {gf : Fm} {T : Nat → Option Tm} {CI : Fm → Prop} {K : Nat}
theorem rx_deepest {t : Tm} (ht' : isT t) (h2 : sz t ≤ 200) (hW : Wd M) (hR : WrkR M c (rws t)) (k : Nat) : ∃ M1, f_X11_deepest (k + 202) 89 M = some (nI (ht t), M1) ∧ Fr S43 M M1 := by
  have F : Fr S43 M (wI M 89 43 0) := Fr.refl.wI ⟨rfl, rfl⟩ _
  obtain ⟨M1, e1, F1, -⟩ := df_main t ht' 0 (k + (200 - sz t)) (wI M 89 43 0) h2 Sb.self (F.Wd hW) (hR.tq F (fun a k q => by unfold S43 at q; omega)) (by simp [up2_if]; rfl)
  obtain ⟨n, hn⟩ : ∃ n, n = k + 201 := ⟨_, rfl⟩
  rw [show sz t + 1 + (k + (200 - sz t)) = n by omega] at e1
  refine ⟨M1, ?_, F.trans F1⟩
  rw [show k + 202 = n + 1 by omega]
  show T_X11_deepest_0 (fun v M => some (v, M)) none (n + 1) 89 M = _
  unfold T_X11_deepest_0
  simp only [↓gd_pos (fO_R hW), ↓bnd2_of (show cal (n + 1) (fun zz => f_X11_deepestFrom zz 89 (wI M 89 43 0)) = _ from e1)]
set_option maxHeartbeats 2000000 in
theorem rx_size (h : RfS M c H gf T CI K) (hA : OkA CI H gf T) (hK : 8191 ≤ K) (h8 : M.2.2.1 89 8 = 0) (k : Nat) (x1 x2 : Int32) :
    (((∀ s, s < 4 → x1 ≠ nI s) ∨ ∀ j, j ≤ 6 → x2 ≠ nI j) → f_X11_size (k + 407) 89 x1 x2 M = some (-2, wI M 89 0 0)) ∧ ∀ s w, s < 4 → w ≤ 6 → x1 = nI s → x2 = nI w →
    (T s = none → f_X11_size (k + 407) 89 x1 x2 M = some (-5, wI M 89 0 0)) ∧ ∀ t x tl, T s = some t → Wc (OkF CI) H.length (hF H) t 0 gN 0 x → Wt (fun i y => tl i = y) H.length (hF H) t 0 gN 0 x →
    ∃ v M1 c1, f_X11_size (k + 407) 89 x1 x2 M = some (v, M1) ∧ SzA H gf t x tl w v ∧ Fr SSz M M1 ∧ RfS M1 c1 H gf T CI 8191 ∧ WkG M1 c1 CI 0 := by
  have hW := h.1
  have F0 : Fr SSz M (wI M 89 0 0) := Fr.refl.wI (by unfold SSz SSi SSu; omega) _
  have F0' : Fr (fun a k => a = 89 ∧ k = 0) M (wI M 89 0 0) := Fr.refl.wI ⟨rfl, rfl⟩ _
  have h0 : RfS (wI M 89 0 0) c H gf T CI K := h.w F0' (fun a k q => by omega)
  have hW0 := h0.1
  obtain ⟨n, hn⟩ : ∃ n, n = k + 406 := ⟨_, rfl⟩
  obtain ⟨a1, a2⟩ := rx_isSlot (M := wI M 89 0 0) (k + 405) x1
  obtain ⟨i1, i2⟩ := rx_isTo (M := wI M 89 0 0) n (n := 6) (by omega) (hi := 6) (by decide) x2
  rw [show k + 405 + 1 = n by omega] at a1 a2
  have hO := fO_R hW
  have hO0 := fO_R hW0
  have une : ((1 : Int32) = 0) = False := eq_false (by decide)
  have h80 : (wI M 89 0 0).2.2.1 89 8 = 0 := by simp [up2_if]; exact h8
  have ee : f_X11_size (n + 1) 89 x1 x2 M = T_X11_size_0 (fun c l M => lp (st_X11_size (n + 1)) (c, l, M)) (fun v M => some (v, M)) none (n + 1) 89 x1 x2 M := ge_X11_size_0 (n + 1) 89 x1 x2 M
  rw [show k + 407 = n + 1 by omega, ee]
  refine ⟨fun hx => ?_, fun s w hs hw6 hx1 hx2 => ?_⟩
  · unfold T_X11_size_0
    rcases slot_cases x1 with ⟨s, hs, hx1⟩ | hn1
    · have e := a1 s hs hx1
      have e2 := i2 (by
        rcases hx with g | g
        · exact absurd hx1 (g s hs)
        · exact g)
      simp only [↓reduceIte, ↓gd_pos hO, ↓bnd2_of (show cal (n + 1) (fun zz => f_X11_isSlot zz x1 (wI M 89 0 0)) = _ from e), une, ↓bnd2_of (show cal (n + 1) (fun zz => f_X11_isIn zz (Int32.toInt64 x2) 0 6 (wI M 89 0 0)) = _ from e2)]
    · have e := a2 hn1
      simp only [↓reduceIte, ↓gd_pos hO, ↓bnd2_of (show cal (n + 1) (fun zz => f_X11_isSlot zz x1 (wI M 89 0 0)) = _ from e)]
  · have e := a1 s hs hx1
    have e2 := i1 w hw6 hx2
    subst hx1 hx2
    refine ⟨fun hN => ?_, fun t x tl hTs hw htl => ?_⟩
    · have e3 := rx_void h0 hs hN n
      unfold T_X11_size_0
      simp only [↓reduceIte, ↓gd_pos hO, ↓gd_pos hO0, ↓bnd2_of (show cal (n + 1) (fun zz => f_X11_isSlot zz (nI s) (wI M 89 0 0)) = _ from e), une, ↓bnd2_of (show cal (n + 1) (fun zz => f_X11_isIn zz (Int32.toInt64 (nI w)) 0 6 (wI M 89 0 0)) = _ from e2), ↓bnd2_of (show cal (n + 1) (fun zz => f_X11_isEmpty zz 89 (nI s) (wI M 89 0 0)) = _ from e3)]
    · obtain ⟨ht, h2, hlb⟩ := hA.2.2.2 s t hs hTs
      have e3 := rx_filled h0 hs ht h2 hTs n
      obtain ⟨c1, M1, y1, F1, R1, W1, f1⟩ := rx_takes h0 hA hK (Or.inl h80) hs hTs (k + 202)
      rw [show k + 202 + 204 = n by omega] at y1
      have R1' : RfS M1 c1 H gf T CI 8191 := ⟨R1.1, R1.2.1, R1.2.2.1, R1.2.2.2.1, R1.2.2.2.2.1, (f1 h80).1⟩
      have hW1 := R1.1
      have F01 : Fr SSz M M1 := F0.trans (F1.mono (fun a k q => by unfold STk at q; show SSz a k; unfold SSz SSi SSu SSq; rcases q with q | q; exact Or.inl (Or.inr (Or.inl (Or.inr q))); exact Or.inl (Or.inr (Or.inr (Or.inr (Or.inl q))))))
      have hc : w = 0 ∨ w = 1 ∨ w = 2 ∨ w = 3 ∨ w = 4 ∨ w = 5 ∨ w = 6 := by omega
      have hWk := WkG_of W1 ⟨ht, h2, hlb⟩
      rcases hc with hc | hc | hc | hc | hc | hc | hc
      · have q0 : (nI w = (0 : Int32)) = True := eq_true (by rw [hc]; rfl)
        have hsz : M1.2.2.1 89 24 = nI (sz t) := by rw [W1.1, rws_len]
        refine ⟨nI (sz t), M1, c1, ?_, Or.inl ⟨hc, rfl⟩, F01, R1', hWk⟩
        unfold T_X11_size_0
        simp (disch := omega) only [↓reduceIte, ↓gd_pos hO, ↓gd_pos hO0, ↓bnd2_of (show cal (n + 1) (fun zz => f_X11_isSlot zz (nI s) (wI M 89 0 0)) = _ from e), une, ↓bnd2_of (show cal (n + 1) (fun zz => f_X11_isIn zz (Int32.toInt64 (nI w)) 0 6 (wI M 89 0 0)) = _ from e2), ↓bnd2_of (show cal (n + 1) (fun zz => f_X11_isEmpty zz 89 (nI s) (wI M 89 0 0)) = _ from e3), ↓bnd2_of (show cal (n + 1) (fun zz => f_X11_takes zz 89 (nI s) (wI M 89 0 0)) = _ from y1), q0, ↓gd_pos (fO_R hW1), hsz]
      · have q0 : (nI w = (0 : Int32)) = False := eq_false (by rw [hc]; decide)
        have q1 : (nI w = (1 : Int32)) = True := eq_true (by rw [hc]; rfl)
        obtain ⟨M2, y2, F2⟩ := rx_deepest ht h2 hW1 W1 (k + 204)
        rw [show k + 204 + 202 = n by omega] at y2
        have R2 := R1'.w F2 (fun a k q => by unfold S43 at q; omega)
        have W2 := W1.tq F2 (fun a k q => by unfold S43 at q; omega)
        refine ⟨_, M2, c1, ?_, Or.inr (Or.inl ⟨hc, rfl⟩), F01.trans (F2.mono (fun a k q => by unfold S43 at q; show SSz a k; unfold SSz SSi SSu SSq SSp; exact Or.inl (Or.inr (Or.inl (Or.inl (Or.inr (Or.inl (by omega)))))))), R2, WkG_of W2 ⟨ht, h2, hlb⟩⟩
        unfold T_X11_size_0
        simp (disch := omega) only [↓reduceIte, ↓gd_pos hO, ↓gd_pos hO0, ↓bnd2_of (show cal (n + 1) (fun zz => f_X11_isSlot zz (nI s) (wI M 89 0 0)) = _ from e), une, ↓bnd2_of (show cal (n + 1) (fun zz => f_X11_isIn zz (Int32.toInt64 (nI w)) 0 6 (wI M 89 0 0)) = _ from e2), ↓bnd2_of (show cal (n + 1) (fun zz => f_X11_isEmpty zz 89 (nI s) (wI M 89 0 0)) = _ from e3), ↓bnd2_of (show cal (n + 1) (fun zz => f_X11_takes zz 89 (nI s) (wI M 89 0 0)) = _ from y1), q0, q1, ↓gd_pos (fO_R hW1), ↓bnd2_of (show cal (n + 1) (fun zz => f_X11_deepest zz 89 M1) = _ from y2)]
      · have q0 : (nI w = (0 : Int32)) = False := eq_false (by rw [hc]; decide)
        have q1 : (nI w = (1 : Int32)) = False := eq_false (by rw [hc]; decide)
        have q2 : (nI w = (2 : Int32)) = True := eq_true (by rw [hc]; rfl)
        have y2 := sz99_loop (n := n + 1) hW1 W1 (nmL_of h.2.2.1.2.1 ht h2 hw) (rws t).length 0 (by omega) 0
        refine ⟨hu 0 (rws t), M1, c1, ?_, Or.inr (Or.inr (Or.inl ⟨hc, rfl⟩)), F01, R1', hWk⟩
        unfold T_X11_size_0
        simp (disch := omega) only [↓reduceIte, ↓gd_pos hO, ↓gd_pos hO0, ↓bnd2_of (show cal (n + 1) (fun zz => f_X11_isSlot zz (nI s) (wI M 89 0 0)) = _ from e), une, ↓bnd2_of (show cal (n + 1) (fun zz => f_X11_isIn zz (Int32.toInt64 (nI w)) 0 6 (wI M 89 0 0)) = _ from e2), ↓bnd2_of (show cal (n + 1) (fun zz => f_X11_isEmpty zz 89 (nI s) (wI M 89 0 0)) = _ from e3), ↓bnd2_of (show cal (n + 1) (fun zz => f_X11_takes zz 89 (nI s) (wI M 89 0 0)) = _ from y1), q0, q1, q2]
        exact y2
      · have q0 : (nI w = (0 : Int32)) = False := eq_false (by rw [hc]; decide)
        have q1 : (nI w = (1 : Int32)) = False := eq_false (by rw [hc]; decide)
        have q2 : (nI w = (2 : Int32)) = False := eq_false (by rw [hc]; decide)
        have q3 : (nI w = (3 : Int32)) = True := eq_true (by rw [hc]; rfl)
        obtain ⟨q, M2, c2, y2, g0, g1, F2, R2, W2⟩ := rx_unlike R1' hA (by omega) ht h2 W1 hw htl (a := 0) (by omega) k
        rw [← hn] at y2
        have y2' : f_X11_unlike n 89 0 M1 = some (nI q, M2) := y2
        refine ⟨nI q, M2, c2, ?_, Or.inr (Or.inr (Or.inr (Or.inl ⟨hc, q, rfl, g0 rfl⟩))), F01.trans (F2.mono (fun a k q => by unfold SUl at q; rcases q with q | q; exact Or.inl (Or.inr (Or.inl (Or.inl q))); exact Or.inr q)), R2, WkG_of W2 ⟨ht, h2, hlb⟩⟩
        unfold T_X11_size_0
        simp (disch := omega) only [↓reduceIte, ↓gd_pos hO, ↓gd_pos hO0, ↓bnd2_of (show cal (n + 1) (fun zz => f_X11_isSlot zz (nI s) (wI M 89 0 0)) = _ from e), une, ↓bnd2_of (show cal (n + 1) (fun zz => f_X11_isIn zz (Int32.toInt64 (nI w)) 0 6 (wI M 89 0 0)) = _ from e2), ↓bnd2_of (show cal (n + 1) (fun zz => f_X11_isEmpty zz 89 (nI s) (wI M 89 0 0)) = _ from e3), ↓bnd2_of (show cal (n + 1) (fun zz => f_X11_takes zz 89 (nI s) (wI M 89 0 0)) = _ from y1), q0, q1, q2, q3, ↓gd_pos (fO_R hW1), ↓bnd2_of (show cal (n + 1) (fun zz => f_X11_unlike zz 89 0 M1) = _ from y2')]
      · have q0 : (nI w = (0 : Int32)) = False := eq_false (by rw [hc]; decide)
        have q1 : (nI w = (1 : Int32)) = False := eq_false (by rw [hc]; decide)
        have q2 : (nI w = (2 : Int32)) = False := eq_false (by rw [hc]; decide)
        have q3 : (nI w = (3 : Int32)) = False := eq_false (by rw [hc]; decide)
        have q4 : (nI w = (4 : Int32)) = True := eq_true (by rw [hc]; rfl)
        obtain ⟨q, M2, c2, y2, g0, g1, F2, R2, W2⟩ := rx_unlike R1' hA (by omega) ht h2 W1 hw htl (a := 1) (by omega) k
        rw [← hn] at y2
        have y2' : f_X11_unlike n 89 1 M1 = some (nI q, M2) := y2
        refine ⟨nI q, M2, c2, ?_, Or.inr (Or.inr (Or.inr (Or.inr (Or.inl ⟨hc, q, rfl, g1 rfl⟩)))), F01.trans (F2.mono (fun a k q => by unfold SUl at q; rcases q with q | q; exact Or.inl (Or.inr (Or.inl (Or.inl q))); exact Or.inr q)), R2, WkG_of W2 ⟨ht, h2, hlb⟩⟩
        unfold T_X11_size_0
        simp (disch := omega) only [↓reduceIte, ↓gd_pos hO, ↓gd_pos hO0, ↓bnd2_of (show cal (n + 1) (fun zz => f_X11_isSlot zz (nI s) (wI M 89 0 0)) = _ from e), une, ↓bnd2_of (show cal (n + 1) (fun zz => f_X11_isIn zz (Int32.toInt64 (nI w)) 0 6 (wI M 89 0 0)) = _ from e2), ↓bnd2_of (show cal (n + 1) (fun zz => f_X11_isEmpty zz 89 (nI s) (wI M 89 0 0)) = _ from e3), ↓bnd2_of (show cal (n + 1) (fun zz => f_X11_takes zz 89 (nI s) (wI M 89 0 0)) = _ from y1), q0, q1, q2, q3, q4, ↓gd_pos (fO_R hW1), ↓bnd2_of (show cal (n + 1) (fun zz => f_X11_unlike zz 89 1 M1) = _ from y2')]
      · have q0 : (nI w = (0 : Int32)) = False := eq_false (by rw [hc]; decide)
        have q1 : (nI w = (1 : Int32)) = False := eq_false (by rw [hc]; decide)
        have q2 : (nI w = (2 : Int32)) = False := eq_false (by rw [hc]; decide)
        have q3 : (nI w = (3 : Int32)) = False := eq_false (by rw [hc]; decide)
        have q4 : (nI w = (4 : Int32)) = False := eq_false (by rw [hc]; decide)
        have q5 : (nI w = (5 : Int32)) = True := eq_true (by rw [hc]; rfl)
        obtain ⟨u, c2, M2, y2, F2, R2, W2, u1, u2, -, -, -, -⟩ := rx_askedR R1' hA (by omega) ht h2 W1 hw (k + 1)
        rw [show k + 1 + 405 = n by omega] at y2
        obtain ⟨v, v1, v2, v3⟩ := R2.2.2.2.1
        have hW2 := R2.1
        have hc2 := R2.2.1.2.1
        have F02 : Fr SSz M M2 := F01.trans (F2.mono (fun a k q => Or.inl (Or.inr (Or.inl (Or.inl q)))))
        by_cases eg : x = gf
        · have huv : u = v := R2.2.1.inj u1 v1 (by rw [u2, v3, eg])
          subst huv
          refine ⟨1, M2, c2, ?_, Or.inr (Or.inr (Or.inr (Or.inr (Or.inr (Or.inl ⟨hc, Or.inl ⟨eg, rfl⟩⟩))))), F02, R2, WkG_of W2 ⟨ht, h2, hlb⟩⟩
          unfold T_X11_size_0
          simp (disch := omega) only [↓reduceIte, ↓gd_pos hO, ↓gd_pos hO0, ↓bnd2_of (show cal (n + 1) (fun zz => f_X11_isSlot zz (nI s) (wI M 89 0 0)) = _ from e), une, ↓bnd2_of (show cal (n + 1) (fun zz => f_X11_isIn zz (Int32.toInt64 (nI w)) 0 6 (wI M 89 0 0)) = _ from e2), ↓bnd2_of (show cal (n + 1) (fun zz => f_X11_isEmpty zz 89 (nI s) (wI M 89 0 0)) = _ from e3), ↓bnd2_of (show cal (n + 1) (fun zz => f_X11_takes zz 89 (nI s) (wI M 89 0 0)) = _ from y1), q0, q1, q2, q3, q4, q5, ↓gd_pos (fO_R hW1), ↓bnd2_of (show cal (n + 1) (fun zz => f_X11_asked zz 89 M1) = _ from y2), ↓gd_pos (fO_R hW2), v2]
        · have hne : (nI u = nI v) = False := eq_false (fun q => eg (by
            have := (nI_eq (by omega) (by omega)).mp q
            rw [← u2, ← v3, this]))
          refine ⟨0, M2, c2, ?_, Or.inr (Or.inr (Or.inr (Or.inr (Or.inr (Or.inl ⟨hc, Or.inr ⟨eg, rfl⟩⟩))))), F02, R2, WkG_of W2 ⟨ht, h2, hlb⟩⟩
          unfold T_X11_size_0
          simp (disch := omega) only [↓reduceIte, ↓gd_pos hO, ↓gd_pos hO0, ↓bnd2_of (show cal (n + 1) (fun zz => f_X11_isSlot zz (nI s) (wI M 89 0 0)) = _ from e), une, ↓bnd2_of (show cal (n + 1) (fun zz => f_X11_isIn zz (Int32.toInt64 (nI w)) 0 6 (wI M 89 0 0)) = _ from e2), ↓bnd2_of (show cal (n + 1) (fun zz => f_X11_isEmpty zz 89 (nI s) (wI M 89 0 0)) = _ from e3), ↓bnd2_of (show cal (n + 1) (fun zz => f_X11_takes zz 89 (nI s) (wI M 89 0 0)) = _ from y1), q0, q1, q2, q3, q4, q5, ↓gd_pos (fO_R hW1), ↓bnd2_of (show cal (n + 1) (fun zz => f_X11_asked zz 89 M1) = _ from y2), ↓gd_pos (fO_R hW2), v2, hne]
      · have q0 : (nI w = (0 : Int32)) = False := eq_false (by rw [hc]; decide)
        have q1 : (nI w = (1 : Int32)) = False := eq_false (by rw [hc]; decide)
        have q2 : (nI w = (2 : Int32)) = False := eq_false (by rw [hc]; decide)
        have q3 : (nI w = (3 : Int32)) = False := eq_false (by rw [hc]; decide)
        have q4 : (nI w = (4 : Int32)) = False := eq_false (by rw [hc]; decide)
        have q5 : (nI w = (5 : Int32)) = False := eq_false (by rw [hc]; decide)
        have y2 := rx_firstRedex hW1 ht W1 (k + 404)
        rw [show k + 404 + 2 = n by omega] at y2
        rcases none_or (frx (rws t) (sz t) 0) with hf | ⟨j, hf⟩
        · rw [hf] at y2
          have y2' : f_X11_firstRedex n 89 M1 = some (-1, M1) := y2
          refine ⟨1, M1, c1, ?_, Or.inr (Or.inr (Or.inr (Or.inr (Or.inr (Or.inr ⟨hc, Or.inl ⟨hf, rfl⟩⟩))))), F01, R1', hWk⟩
          unfold T_X11_size_0
          simp (disch := omega) only [↓reduceIte, ↓gd_pos hO, ↓gd_pos hO0, ↓bnd2_of (show cal (n + 1) (fun zz => f_X11_isSlot zz (nI s) (wI M 89 0 0)) = _ from e), une, ↓bnd2_of (show cal (n + 1) (fun zz => f_X11_isIn zz (Int32.toInt64 (nI w)) 0 6 (wI M 89 0 0)) = _ from e2), ↓bnd2_of (show cal (n + 1) (fun zz => f_X11_isEmpty zz 89 (nI s) (wI M 89 0 0)) = _ from e3), ↓bnd2_of (show cal (n + 1) (fun zz => f_X11_takes zz 89 (nI s) (wI M 89 0 0)) = _ from y1), q0, q1, q2, q3, q4, q5, ↓gd_pos (fO_R hW1), ↓bnd2_of (show cal (n + 1) (fun zz => f_X11_firstRedex zz 89 M1) = _ from y2')]
        · rw [hf] at y2
          have y2' : f_X11_firstRedex n 89 M1 = some (nI j, M1) := y2
          have hj : j < 200 := by
            rcases frx_is (rws t) (sz t) 0 with ⟨q, -⟩ | ⟨j', -, g2, -, g4, -⟩
            · rw [q] at hf; cases hf
            · rw [g4] at hf; cases hf; omega
          have hne : (nI j = (-1 : Int32)) = False := nI_ne_m1 (by omega)
          refine ⟨0, M1, c1, ?_, Or.inr (Or.inr (Or.inr (Or.inr (Or.inr (Or.inr ⟨hc, Or.inr ⟨by rw [hf]; exact fun q => (by cases q), rfl⟩⟩))))), F01, R1', hWk⟩
          unfold T_X11_size_0
          simp (disch := omega) only [↓reduceIte, ↓gd_pos hO, ↓gd_pos hO0, ↓bnd2_of (show cal (n + 1) (fun zz => f_X11_isSlot zz (nI s) (wI M 89 0 0)) = _ from e), une, ↓bnd2_of (show cal (n + 1) (fun zz => f_X11_isIn zz (Int32.toInt64 (nI w)) 0 6 (wI M 89 0 0)) = _ from e2), ↓bnd2_of (show cal (n + 1) (fun zz => f_X11_isEmpty zz 89 (nI s) (wI M 89 0 0)) = _ from e3), ↓bnd2_of (show cal (n + 1) (fun zz => f_X11_takes zz 89 (nI s) (wI M 89 0 0)) = _ from y1), q0, q1, q2, q3, q4, q5, ↓gd_pos (fO_R hW1), ↓bnd2_of (show cal (n + 1) (fun zz => f_X11_firstRedex zz 89 M1) = _ from y2'), hne]
end RZ3
section JZ3
variable {M : Mem} {k : Nat}
theorem j_size (hk : k < 512) (h : Jn k M) (x1 x2 : Int32) : Pr2 (Jn (k + 1)) (f_X10_size 2047 0 x1 x2) (f_X11_size 2047 89 x1 x2) M := by
  obtain ⟨c, cR, b, L, H, gf, T, ks, hC, hR, hP, hE, hb, hm⟩ := h
  have hCl := Inn_cls hC.1.2.2.1
  obtain ⟨a1, a2⟩ := c_size hC.1 hm (by omega) 2041 x1 x2
  obtain ⟨r1, r2⟩ := rx_size hR.1 (hP.ok hCl) (by omega) hR.2.2.2.2 1640 x1 x2
  by_cases hx : (∀ s, s < 4 → x1 ≠ nI s) ∨ ∀ j, j ≤ 6 → x2 ≠ nI j
  · exact jn_ans hb hm hC hR hP hE (a1 hx) (r1 hx)
  · obtain ⟨s, hs, hx1⟩ : ∃ s, s < 4 ∧ x1 = nI s := (slot_cases x1).resolve_right (fun q => hx (Or.inl q))
    obtain ⟨w, hw2, hx2⟩ : ∃ j, j ≤ 6 ∧ x2 = nI j := (what_in x2 6).resolve_right (fun q => hx (Or.inr q))
    obtain ⟨a5, a6⟩ := a2 s w hs hw2 hx1 hx2
    obtain ⟨r5, -⟩ := r2 s w hs hw2 hx1 hx2
    rcases none_or (T s) with hNo | ⟨t, hT⟩
    · exact jn_ans hb hm hC hR hP hE (a5 hNo) (r5 hNo)
    · obtain ⟨ht, hz, x, hw⟩ := hP.2.2 s t hs hT
      obtain ⟨tl, wtl⟩ := Wt.fun t ht hw
      have htl : Wt (fun i y => tl i = y) H.length (hF H) t 0 gN 0 x := wtl.imp t ht (fun i y _ _ g => g.2)
      obtain ⟨v, M1, e1, A1, F1, C1, m1⟩ := a6 t x tl hT ht (Wc.inn ht hw) htl
      have hS1 : ∀ a k, Ssz a k → a < 89 ∧ (10 ≤ a ∨ a = 8 ∨ (a = 2 ∧ k = 8)) ∧ a ≠ 88 ∧ a ≠ 14 := fun a k q => by unfold Ssz SAg S28 at q; omega
      have d1 := dC_fq F1 (fun k q => by have := hS1 _ _ q; omega) (fun k q => by have := hS1 _ _ q; omega) (fun k q => by have := hS1 _ _ q; omega)
      have hI : ∀ f, Inn M c f → Inn M1 c f := fun f ⟨v, v1, v2⟩ => ⟨v, v1, by rw [d1]; exact v2⟩
      have hR1 := hR.cls F1 (fun a k q => (hS1 _ _ q).1) hI
      have hP1 := hP.ci hI
      have hCl1 := Inn_cls C1.2.2.1
      have hw1 : Wc (OkF (Inn M1 c)) H.length (hF H) t 0 gN 0 x := hw.imp t ht (fun i z _ _ q => q.ci hI)
      obtain ⟨-, q2⟩ := rx_size hR1.1 (hP1.ok hCl1) (by omega) hR1.2.2.2.2 1640 x1 x2
      obtain ⟨v2, M2, cr, e2, A2, F2, R2, W2⟩ := (q2 s w hs hw2 hx1 hx2).2 t x tl hT hw1 htl
      have := A1.fn A2
      subst this
      have hSl : ∀ a k, SSz a k → 89 ≤ a ∧ ¬ (a = 89 ∧ (k = 8 ∨ k = 27 ∨ k = 32 ∨ k = 33 ∨ k = 47)) ∧ a ≠ 109 ∧ a ≠ 117 := fun a k q => by unfold SSz SSi SNz SSu SSq SSp SR STd STr S95 at q; omega
      have hC1 : ClA M1 c b L H gf T ks := hC.mk C1 F1 (fun a k q => by have := hS1 _ _ q; omega)
      have hT1 := hR1.2.1
      have hK1 := hR1.2.2.1
      refine ⟨v, M1, M2, e1, fO_89 C1.1, e2, Jn.mk2 (cR := cr) (by omega) m1 hC1 F2 (fun a k q => (hSl _ _ q).1) ⟨⟨R2.1, R2.2.1, R2.2.2.1, R2.2.2.2.1, R2.2.2.2.2.1, R2.2.2.2.2.2.mono (by omega)⟩, ⟨(F2.int (fun q => by have := hSl _ _ q; omega)).trans hT1.1, hT1.2.1, fun j hj => ⟨(hT1.2.2 j hj).1, (F2.int (fun q => by have := hSl _ _ q; omega)).trans (hT1.2.2 j hj).2⟩⟩, ⟨(F2.int (fun q => by have := hSl _ _ q; omega)).trans hK1.1, hK1.2.1, fun j y hj => (F2.int (fun q => by have := hSl _ _ q; omega)).trans (hK1.2.2 j y hj)⟩, W2.z (by omega), (F2.int (fun q => by have := hSl _ _ q; omega)).trans hR1.2.2.2.2⟩ hP1 ⟨?_, ?_⟩⟩
      · rw [F2.int (fun q => by have := (hSl _ _ q).1; omega), F2.int (fun q => by have := hSl _ _ q; omega), F1.int (fun q => by have := hS1 _ _ q; omega), F1.int (fun q => by have := hS1 _ _ q; omega)]
        exact hE.1
      · rw [F2.int (fun q => by have := (hSl _ _ q).1; omega), F2.int (fun q => by have := hSl _ _ q; omega), F1.int (fun q => by have := hS1 _ _ q; omega), F1.int (fun q => by have := hS1 _ _ q; omega)]
        exact hE.2
end JZ3
