/-! CUT, the call, in the reference -/
section RCC
variable {M M1 : Mem} {c c1 : Nat} {H : List (Nat × Fm)} {gf : Fm} {T : Nat → Option Tm} {CI : Fm → Prop} {K : Nat}
def SCr (a k : Nat) : Prop := SSp a k ∨ SSu a k
set_option maxHeartbeats 4000000 in
theorem rx_cut (h : RfS M c H gf T CI K) (hA : OkA CI H gf T) (hK : 8191 ≤ K) (h8 : M.2.2.1 89 8 = 0) (hTy : ∀ s t, s < 4 → T s = some t → ∃ y, Wc (OkF CI) H.length (hF H) t 0 gN 0 y) (k : Nat) (x1 x2 x3 x4 : Int32) :
    (((∀ s, s < 4 → x1 ≠ nI s) ∨ (∀ j, j < H.length → x2 ≠ nI j) ∨ (∀ s, s < 4 → x3 ≠ nI s) ∨ (∀ s, s < 4 → x4 ≠ nI s)) → f_X11_cut (k + 406) 89 x1 x2 x3 x4 M = some (-2, wI M 89 0 0)) ∧ ∀ s1 j s3 s4, s1 < 4 → j < H.length → s3 < 4 → s4 < 4 → x1 = nI s1 → x2 = nI j → x3 = nI s3 → x4 = nI s4 →
    (T s1 = none ∨ T s3 = none → f_X11_cut (k + 406) 89 x1 x2 x3 x4 M = some (-5, wI M 89 0 0)) ∧ ∀ t s y, T s1 = some t → T s3 = some s → Wc (OkF CI) H.length (hF H) s 0 gN 0 y →
    (y ≠ hF H j → ∃ M1 c1, f_X11_cut (k + 406) 89 x1 x2 x3 x4 M = some (-5, M1) ∧ Fr SCr M M1 ∧ RfS M1 c1 H gf T CI 8191 ∧ WkG M1 c1 CI 0) ∧
    (y = hF H j → (200 < sz (hbs j s t 0) → ∃ M1 c1, f_X11_cut (k + 406) 89 x1 x2 x3 x4 M = some (-4, M1) ∧ Fr SCr M M1 ∧ RfS M1 c1 H gf T CI 8191 ∧ WkG M1 c1 CI 0) ∧ (sz (hbs j s t 0) ≤ 200 → ∃ M1 c1, f_X11_cut (k + 406) 89 x1 x2 x3 x4 M = some (nI (sz (hbs j s t 0)), M1) ∧ Fr SCr M M1 ∧ RfS M1 c1 H gf (ups T s4 (some (hbs j s t 0))) CI 8191 ∧ WkG M1 c1 CI 0)) := by
  have hW := h.1
  have F0 : Fr SCr M (wI M 89 0 0) := Fr.refl.wI (by unfold SCr SSu; omega) _
  have F0' : Fr (fun a k => a = 89 ∧ k = 0) M (wI M 89 0 0) := Fr.refl.wI ⟨rfl, rfl⟩ _
  have h0 : RfS (wI M 89 0 0) c H gf T CI K := h.w F0' (fun a k q => by omega)
  have hW0 := h0.1
  have h6 := h.2.2.1.2.1
  have h15 : (wI M 89 0 0).2.2.1 89 15 = nI H.length := h0.2.2.1.1
  have h15' : M.2.2.1 89 15 = nI H.length := h.2.2.1.1
  obtain ⟨q, hq⟩ : ∃ q, q = k + 405 := ⟨_, rfl⟩
  obtain ⟨a1, a2⟩ := rx_isSlot (M := wI M 89 0 0) (k + 404) x1
  obtain ⟨b1, b2⟩ := rx_isSlot (M := wI M 89 0 0) (k + 404) x3
  obtain ⟨d1, d2⟩ := rx_isSlot (M := wI M 89 0 0) (k + 404) x4
  obtain ⟨i1, i2⟩ := rx_isHyp (M := wI M 89 0 0) q h6 x2
  rw [show k + 404 + 1 = q by omega] at a1 a2 b1 b2 d1 d2
  rw [show k + 406 = q + 1 by omega]
  have hO := fO_R hW
  have hO0 := fO_R hW0
  have une : ((1 : Int32) = 0) = False := eq_false (by decide)
  have h80 : (wI M 89 0 0).2.2.1 89 8 = 0 := by simp [up2_if]; exact h8
  have ee := ge_X11_cut_0 (q + 1) 89 x1 x2 x3 x4 M
  refine ⟨fun hx => ?_, fun s1 j s3 s4 hs1 hj hs3 hs4 hx1 hx2 hx3 hx4 => ?_⟩
  · refine ee.trans ?_
    unfold T_X11_cut_0
    rcases slot_cases x1 with ⟨s1, hs1, hx1⟩ | hn1
    · have e1 := a1 s1 hs1 hx1
      by_cases hh : ∃ j, j < H.length ∧ x2 = nI j
      · obtain ⟨j, hj, hx2⟩ := hh
        have e2 := i1 j hj hx2
        rcases slot_cases x3 with ⟨s3, hs3, hx3⟩ | hn3
        · have e3 := b1 s3 hs3 hx3
          rcases slot_cases x4 with ⟨s4, hs4, hx4⟩ | hn4
          · exfalso
            rcases hx with g | g | g | g
            · exact g s1 hs1 hx1
            · exact g j hj hx2
            · exact g s3 hs3 hx3
            · exact g s4 hs4 hx4
          · have e4 := d2 hn4
            simp only [↓reduceIte, ↓gd_pos hO, ↓gd_pos hO0, ↓bnd2_of (show cal (q + 1) (fun zz => f_X11_isSlot zz x1 (wI M 89 0 0)) = _ from e1), une, up2_if, Nat.reduceEqDiff, and_false, if_false, h15', ↓bnd2_of (show cal (q + 1) (fun zz => f_X11_isIn zz (Int32.toInt64 x2) 0 (Int32.toInt64 (nI H.length - 1)) (wI M 89 0 0)) = _ from e2), ↓bnd2_of (show cal (q + 1) (fun zz => f_X11_isSlot zz x3 (wI M 89 0 0)) = _ from e3), ↓bnd2_of (show cal (q + 1) (fun zz => f_X11_isSlot zz x4 (wI M 89 0 0)) = _ from e4)]
        · have e3 := b2 hn3
          simp only [↓reduceIte, ↓gd_pos hO, ↓gd_pos hO0, ↓bnd2_of (show cal (q + 1) (fun zz => f_X11_isSlot zz x1 (wI M 89 0 0)) = _ from e1), une, up2_if, Nat.reduceEqDiff, and_false, if_false, h15', ↓bnd2_of (show cal (q + 1) (fun zz => f_X11_isIn zz (Int32.toInt64 x2) 0 (Int32.toInt64 (nI H.length - 1)) (wI M 89 0 0)) = _ from e2), ↓bnd2_of (show cal (q + 1) (fun zz => f_X11_isSlot zz x3 (wI M 89 0 0)) = _ from e3)]
      · have e2 := i2 (fun j hj e => hh ⟨j, hj, e⟩)
        simp only [↓reduceIte, ↓gd_pos hO, ↓gd_pos hO0, ↓bnd2_of (show cal (q + 1) (fun zz => f_X11_isSlot zz x1 (wI M 89 0 0)) = _ from e1), une, up2_if, Nat.reduceEqDiff, and_false, if_false, h15', ↓bnd2_of (show cal (q + 1) (fun zz => f_X11_isIn zz (Int32.toInt64 x2) 0 (Int32.toInt64 (nI H.length - 1)) (wI M 89 0 0)) = _ from e2)]
    · have e1 := a2 hn1
      simp only [↓reduceIte, ↓gd_pos hO, ↓bnd2_of (show cal (q + 1) (fun zz => f_X11_isSlot zz x1 (wI M 89 0 0)) = _ from e1)]
  · have e1 := a1 s1 hs1 hx1
    have e2 := i1 j hj hx2
    have e3 := b1 s3 hs3 hx3
    have e4 := d1 s4 hs4 hx4
    subst hx1 hx2 hx3 hx4
    refine ⟨fun hN => ?_, fun t s y hT1 hT3 hws => ?_⟩
    · refine ee.trans ?_
      unfold T_X11_cut_0
      by_cases qn : T s1 = none
      · have e5 := rx_void h0 hs1 qn q
        simp only [↓reduceIte, ↓gd_pos hO, ↓gd_pos hO0, ↓bnd2_of (show cal (q + 1) (fun zz => f_X11_isSlot zz (nI s1) (wI M 89 0 0)) = _ from e1), une, up2_if, Nat.reduceEqDiff, and_false, if_false, h15', ↓bnd2_of (show cal (q + 1) (fun zz => f_X11_isIn zz (Int32.toInt64 (nI j)) 0 (Int32.toInt64 (nI H.length - 1)) (wI M 89 0 0)) = _ from e2), ↓bnd2_of (show cal (q + 1) (fun zz => f_X11_isSlot zz (nI s3) (wI M 89 0 0)) = _ from e3), ↓bnd2_of (show cal (q + 1) (fun zz => f_X11_isSlot zz (nI s4) (wI M 89 0 0)) = _ from e4), ↓bnd2_of (show cal (q + 1) (fun zz => f_X11_isEmpty zz 89 (nI s1) (wI M 89 0 0)) = _ from e5)]
      · obtain ⟨t, ht⟩ : ∃ t, T s1 = some t := by
          cases hq : T s1 with
          | none => exact absurd hq qn
          | some t => exact ⟨t, rfl⟩
        obtain ⟨o1, o2, -⟩ := hA.2.2.2 s1 t hs1 ht
        have e5 := rx_filled h0 hs1 o1 o2 ht q
        have e6 := rx_void h0 hs3 (hN.resolve_left qn) q
        simp only [↓reduceIte, ↓gd_pos hO, ↓gd_pos hO0, ↓bnd2_of (show cal (q + 1) (fun zz => f_X11_isSlot zz (nI s1) (wI M 89 0 0)) = _ from e1), une, up2_if, Nat.reduceEqDiff, and_false, if_false, h15', ↓bnd2_of (show cal (q + 1) (fun zz => f_X11_isIn zz (Int32.toInt64 (nI j)) 0 (Int32.toInt64 (nI H.length - 1)) (wI M 89 0 0)) = _ from e2), ↓bnd2_of (show cal (q + 1) (fun zz => f_X11_isSlot zz (nI s3) (wI M 89 0 0)) = _ from e3), ↓bnd2_of (show cal (q + 1) (fun zz => f_X11_isSlot zz (nI s4) (wI M 89 0 0)) = _ from e4), ↓bnd2_of (show cal (q + 1) (fun zz => f_X11_isEmpty zz 89 (nI s1) (wI M 89 0 0)) = _ from e5), ↓bnd2_of (show cal (q + 1) (fun zz => f_X11_isEmpty zz 89 (nI s3) (wI M 89 0 0)) = _ from e6)]
    · obtain ⟨it, zt, lt⟩ := hA.2.2.2 s1 t hs1 hT1
      obtain ⟨is, zs, ls⟩ := hA.2.2.2 s3 s hs3 hT3
      obtain ⟨wt, hwt⟩ := hTy s1 t hs1 hT1
      have e5 := rx_filled h0 hs1 it zt hT1 q
      have e6 := rx_filled h0 hs3 is zs hT3 q
      obtain ⟨c1, M1, y1, F1, R1, W1, f1⟩ := rx_takes h0 hA hK (Or.inl h80) hs3 hT3 (k + 201)
      rw [show k + 201 + 204 = q by omega] at y1
      have R1' : RfS M1 c1 H gf T CI 8191 := ⟨R1.1, R1.2.1, R1.2.2.1, R1.2.2.2.1, R1.2.2.2.2.1, (f1 h80).1⟩
      have h81 : M1.2.2.1 89 8 = 0 := (F1.int (by unfold STk STd STr; omega)).trans h80
      obtain ⟨u, c2, M2, y2, F2, R2, W2, u1, u2, -, -, -, -⟩ := rx_askedR R1' hA (by omega) is zs W1 hws k
      rw [← hq] at y2
      have h82 : M2.2.2.1 89 8 = 0 := (F2.int (by unfold SSp SR; omega)).trans h81
      have hW1 := R1.1
      have hW2 := R2.1
      have tkS : ∀ a k, STk a k → SCr a k := fun a k q => by
        unfold STk at q
        unfold SCr SSu SSq
        rcases q with q | q
        · exact Or.inr (Or.inl (Or.inr q))
        · exact Or.inr (Or.inr (Or.inr (Or.inl q)))
      have F02 : Fr SCr M M2 := (F0.trans (F1.mono tkS)).trans (F2.mono (fun a k q => Or.inl q))
      obtain ⟨-, w, w1, w2, w3⟩ := R2.2.2.1.2.2 j hj
      have hc2 := R2.2.1.2.1
      have hFj : hF H j = H[j].2 := by
        unfold hF
        rw [List.getD_eq_getElem?_getD, List.getElem?_eq_getElem hj]
        rfl
      have hA98 := fA_R hW2 (a := 98) (by omega) (s_98 hW2) (show j < 6 by omega) (by omega)
      refine ⟨fun hy => ⟨M2, c2, ?_, F02, R2, WkG_of W2 ⟨is, zs, ls⟩⟩, fun hy => ?_⟩
      · have hne : (nI u = nI w) = False := eq_false (fun z => hy (by
          have := (nI_eq (by omega) (by omega)).mp z
          rw [← u2, this, hFj]
          exact w3))
        refine ee.trans ?_
        unfold T_X11_cut_0
        simp (disch := omega) only [↓reduceIte, ↓gd_pos hO, ↓gd_pos hO0, ↓bnd2_of (show cal (q + 1) (fun zz => f_X11_isSlot zz (nI s1) (wI M 89 0 0)) = _ from e1), une, up2_if, Nat.reduceEqDiff, and_false, if_false, h15', ↓bnd2_of (show cal (q + 1) (fun zz => f_X11_isIn zz (Int32.toInt64 (nI j)) 0 (Int32.toInt64 (nI H.length - 1)) (wI M 89 0 0)) = _ from e2), ↓bnd2_of (show cal (q + 1) (fun zz => f_X11_isSlot zz (nI s3) (wI M 89 0 0)) = _ from e3), ↓bnd2_of (show cal (q + 1) (fun zz => f_X11_isSlot zz (nI s4) (wI M 89 0 0)) = _ from e4), ↓bnd2_of (show cal (q + 1) (fun zz => f_X11_isEmpty zz 89 (nI s1) (wI M 89 0 0)) = _ from e5), ↓bnd2_of (show cal (q + 1) (fun zz => f_X11_isEmpty zz 89 (nI s3) (wI M 89 0 0)) = _ from e6), ↓bnd2_of (show cal (q + 1) (fun zz => f_X11_takes zz 89 (nI s3) (wI M 89 0 0)) = _ from y1), ↓gd_pos (fO_R hW1), ↓bnd2_of (show cal (q + 1) (fun zz => f_X11_asked zz 89 M1) = _ from y2), ↓gd_pos (fO_R hW2), ↓bnd_of (r_89_11 hW2), ↓gd_pos hA98, nI_z, w2, hne]
      · have heq : (nI u = nI w) = True := eq_true (by rw [R2.2.1.inj u1 w1 (by rw [u2, w3, hy, hFj])])
        obtain ⟨c3, M3, y3, F3, R3, W3, f3⟩ := rx_takes R2 hA (Nat.le_refl _) (Or.inl h82) hs1 hT1 (k + 201)
        rw [show k + 201 + 204 = q by omega] at y3
        have h83 : M3.2.2.1 89 8 = 0 := (F3.int (by unfold STk STd STr; omega)).trans h82
        obtain ⟨u', c4, M4, y4, F4, R4, W4, -, -, -, D4, -, -⟩ := rx_askedR R3 hA (by omega) it zt W3 hwt k
        rw [← hq] at y4
        have hW3 := R3.1
        have hW4 := R4.1
        have F04 : Fr SCr M M4 := (F02.trans (F3.mono tkS)).trans (F4.mono (fun a k q => Or.inl q))
        have hnt : ∀ nd, nd ∈ rws t → nmB nd := scp_nm t it (hwt.sco h6 t it).1 (by omega)
        have hns : ∀ nd, nd ∈ rws s → nmB nd := scp_nm s is (hws.sco h6 s is).1 (by omega)
        obtain ⟨g4, g5⟩ := (R4.2.2.2.2.1 s3 hs3).2 s hT3
        obtain ⟨z, hz⟩ : ∃ z, sz s = z + 1 := ⟨sz s - 1, by have := sz_pos s is; omega⟩
        have e7 := k1_tree hW4 W4 hnt q (s4 := s4) hs3 (by rw [g4, hz]) (show j < 6 by omega) t it (n := sz t) Sb.self
        rw [Nat.zero_add] at e7
        have hsz := sz_hbs (k := j) is t it 0
        rw [hz, Nat.mul_succ] at hsz
        have hcz : sz t + cnh j t * z = sz (hbs j s t 0) := by omega
        rw [hcz] at e7
        have hle := cnh_le (k := j) t it
        have hbig : sz (hbs j s t 0) < 1000000 := by
          have : cnh j t * z ≤ 200 * 200 := Nat.mul_le_mul (by omega) (by omega)
          omega
        have go : f_X11_cut (q + 1) 89 (nI s1) (nI j) (nI s3) (nI s4) M = lpK1 q j s3 s4 (sz (hbs j s t 0)) (sz t) M4 := by
          rw [← e7]
          refine ee.trans ?_
          unfold T_X11_cut_0 lpK1
          have h24 : M4.2.2.1 89 24 = nI (sz t) := W4.1
          simp (disch := omega) only [↓reduceIte, ↓gd_pos hO, ↓gd_pos hO0, ↓bnd2_of (show cal (q + 1) (fun zz => f_X11_isSlot zz (nI s1) (wI M 89 0 0)) = _ from e1), une, up2_if, Nat.reduceEqDiff, and_false, if_false, h15', ↓bnd2_of (show cal (q + 1) (fun zz => f_X11_isIn zz (Int32.toInt64 (nI j)) 0 (Int32.toInt64 (nI H.length - 1)) (wI M 89 0 0)) = _ from e2), ↓bnd2_of (show cal (q + 1) (fun zz => f_X11_isSlot zz (nI s3) (wI M 89 0 0)) = _ from e3), ↓bnd2_of (show cal (q + 1) (fun zz => f_X11_isSlot zz (nI s4) (wI M 89 0 0)) = _ from e4), ↓bnd2_of (show cal (q + 1) (fun zz => f_X11_isEmpty zz 89 (nI s1) (wI M 89 0 0)) = _ from e5), ↓bnd2_of (show cal (q + 1) (fun zz => f_X11_isEmpty zz 89 (nI s3) (wI M 89 0 0)) = _ from e6), ↓bnd2_of (show cal (q + 1) (fun zz => f_X11_takes zz 89 (nI s3) (wI M 89 0 0)) = _ from y1), ↓gd_pos (fO_R hW1), ↓bnd2_of (show cal (q + 1) (fun zz => f_X11_asked zz 89 M1) = _ from y2), ↓gd_pos (fO_R hW2), ↓bnd_of (r_89_11 hW2), ↓gd_pos hA98, nI_z, w2, heq, ↓bnd2_of (show cal (q + 1) (fun zz => f_X11_takes zz 89 (nI s1) M2) = _ from y3), ↓gd_pos (fO_R hW3), ↓bnd2_of (show cal (q + 1) (fun zz => f_X11_asked zz 89 M3) = _ from y4), ↓gd_pos (fO_R hW4), h24]
          rfl
        have h24 : M4.2.2.1 89 24 = nI (sz t) := W4.1
        refine ⟨fun hb => ⟨M4, c4, ?_, F04, R4, WkG_of W4 ⟨it, zt, lt⟩⟩, fun hf => ?_⟩
        · rw [go]
          refine (ge_X11_cut_106 (q + 1) 89 (nI j) (nI s3) (nI s4) (nI (sz (hbs j s t 0))) (nI (sz t)) M4).trans ?_
          unfold T_X11_cut_106
          simp (disch := omega) only [↓gd_pos (fO_R hW4), h24, nI_le_, Nat.le_refl, ↓reduceIte, show (200 : Int32) = nI 200 from rfl, eq_false (show ¬ sz (hbs j s t 0) ≤ 200 by omega)]
        · have N0 : NwS (wI M4 89 25 0) c4 (rws t) [] := ⟨hW4.wI _ _ _, W4, by simp [up2_if]; rfl, by simp, fun nd q => by simp at q, fun i nd q => by simp at q⟩
          have F5 : Fr SNw M4 (wI M4 89 25 0) := Fr.refl.wI (by unfold SNw; omega) _
          have S5 : SdR M4 c4 s3 (rws s) := ⟨g4, by rw [rws_len]; exact zs, g5⟩
          obtain ⟨M6, e8, F6, N6⟩ := k2_tree is hs3 hns hnt q (s4 := s4) (show j < 6 by omega) t it (p := 0) (d := 0) Sb.self (D4.congr t it (fun i _ _ => F5.int (by unfold SNw; omega))) (by omega) N0 (S5.nw F5) (by simp; omega)
          rw [Nat.zero_add, List.nil_append] at *
          obtain ⟨M7, y7, F7, W7⟩ := rx_turns N6 q
          have F47 : Fr (fun a k => SNw a k ∨ STr a k) M4 M7 := (((F5.trans F6).mono (fun a k q => Or.inl q))).trans (F7.mono (fun a k q => Or.inr q))
          have R7 := R4.w F47 (fun a k q => by unfold SNw STr at q; omega)
          have hW7 := R7.1
          obtain ⟨M8, y8, F8, R8, W8⟩ := R7.st (fun r u hr hu => (hA.2.2.2 r u hr hu).2.1) hs4 W7 hf q
          have hW8 := R8.1
          have hwn : Wc (OkF CI) H.length (hF H) (hbs j s t 0) 0 gN 0 wt := Wt_hbs is (by rw [← hy]; exact hws) t it hwt
          have n24 : M6.2.2.1 89 24 = nI (sz t) := N6.2.1.1
          have m24 : M8.2.2.1 89 24 = nI (sz (hbs j s t 0)) := W8.1
          refine ⟨M8, c4, ?_, (F04.trans (F47.mono (fun a k q => by unfold SNw STr at q; unfold SCr SSp SSu; omega))).trans (F8.mono (fun a k q => by unfold SSt at q; unfold SCr SSu; omega)), R8, WkG_of W8 ⟨isT_hbs is t it 0, hf, lab_ok (OkF.pt hA.1) _ (isT_hbs is t it 0) hwn⟩⟩
          rw [go]
          refine (ge_X11_cut_106 (q + 1) 89 (nI j) (nI s3) (nI s4) (nI (sz (hbs j s t 0))) (nI (sz t)) M4).trans ?_
          unfold T_X11_cut_106
          simp (disch := omega) only [↓gd_pos (fO_R hW4), h24, nI_le_, Nat.le_refl, ↓reduceIte, show (200 : Int32) = nI 200 from rfl, eq_true hf]
          refine Eq.trans (show _ = lpK2 q j s3 s4 0 (wI M4 89 25 0) from rfl) ?_
          rw [e8]
          unfold lpK2
          refine (ge_X11_cut_180 (q + 1) 89 (nI j) (nI s3) (nI s4) (nI (sz t)) M6).trans ?_
          unfold T_X11_cut_180
          simp (disch := omega) only [↓gd_pos (fO_R N6.1), n24, nI_le_, Nat.le_refl, ↓reduceIte, ↓bnd2_of (show cal (q + 1) (fun zz => f_X11_turns zz 89 M6) = _ from y7), ↓gd_pos (fO_R hW7), ↓bnd2_of (show cal (q + 1) (fun zz => f_X11_stores zz 89 (nI s4) M7) = _ from y8), ↓gd_pos (fO_R hW8), m24]
end RCC
