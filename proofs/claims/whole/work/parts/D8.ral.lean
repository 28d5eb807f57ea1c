/-! ALIKE, the call, in the reference -/
section RAL
variable {M M1 : Mem} {c c1 : Nat} {H : List (Nat × Fm)} {gf : Fm} {T : Nat → Option Tm} {CI : Fm → Prop} {K : Nat}
def SAr2 (a k : Nat) : Prop := SNz a k ∨ SSu a k ∨ SKb a k ∨ (a = 89 ∧ k = 8)
theorem SAr2.tk {a k : Nat} (q : STk a k) : SAr2 a k := by
  unfold STk at q
  unfold SAr2 SSu SSq
  rcases q with q | q
  · exact Or.inr (Or.inl (Or.inl (Or.inr q)))
  · exact Or.inr (Or.inl (Or.inr (Or.inr (Or.inl q))))
set_option maxHeartbeats 2000000 in
theorem rx_alike (h : RfS M c H gf T CI K) (hA : OkA CI H gf T) (hK : 8191 ≤ K) (hK2 : K ≤ 11000) (h8 : M.2.2.1 89 8 = 0) (hTy : ∀ s t, s < 4 → T s = some t → ∃ y, Wc (OkF CI) H.length (hF H) t 0 gN 0 y) (k : Nat) (x1 x2 : Int32) :
    ((∀ s, s < 4 → x1 ≠ nI s) → f_X11_alike (k + 408) 89 x1 x2 M = some (-2, wI M 89 0 0)) ∧ ∀ s1, s1 < 4 → x1 = nI s1 →
    ((∀ s, s < 4 → x2 ≠ nI s) → f_X11_alike (k + 408) 89 x1 x2 M = some (-2, wI M 89 0 0)) ∧ ∀ s2, s2 < 4 → x2 = nI s2 →
    (T s1 = none ∨ T s2 = none → f_X11_alike (k + 408) 89 x1 x2 M = some (-5, wI M 89 0 0)) ∧ ∀ t1 t2 o1 o2 v, T s1 = some t1 → T s2 = some t2 → NrmR H.length (hF H) 60 t1 o1 → NrmR H.length (hF H) 60 t2 o2 → AlO o1 o2 v → ∃ M1 c1, f_X11_alike (k + 408) 89 x1 x2 M = some (v, M1) ∧ Fr SAr2 M M1 ∧ M1.2.2.1 89 8 = 0 ∧ RfS M1 c1 H gf T CI K ∧ WkG M1 c1 CI 0 := by
  have hW := h.1
  have F0 : Fr SAr2 M (wI M 89 0 0) := Fr.refl.wI (by unfold SAr2 SSu; omega) _
  have F0' : Fr (fun a k => a = 89 ∧ k = 0) M (wI M 89 0 0) := Fr.refl.wI ⟨rfl, rfl⟩ _
  have h0 : RfS (wI M 89 0 0) c H gf T CI K := h.w F0' (fun a k q => by omega)
  have hW0 := h0.1
  obtain ⟨q, hq⟩ : ∃ q, q = k + 407 := ⟨_, rfl⟩
  obtain ⟨a1, a2⟩ := rx_isSlot (M := wI M 89 0 0) (k + 406) x1
  obtain ⟨b1, b2⟩ := rx_isSlot (M := wI M 89 0 0) (k + 406) x2
  rw [show k + 406 + 1 = q by omega] at a1 a2 b1 b2
  rw [show k + 408 = q + 1 by omega]
  have hO := fO_R hW
  have hO0 := fO_R hW0
  have une : ((1 : Int32) = 0) = False := eq_false (by decide)
  have ee := ge_X11_alike_0 (q + 1) 89 x1 x2 M
  refine ⟨fun hx => ?_, fun s1 hs1 hx1 => ⟨fun hx => ?_, fun s2 hs2 hx2 => ?_⟩⟩
  · have e := a2 hx
    refine ee.trans ?_
    unfold T_X11_alike_0
    simp only [↓reduceIte, ↓gd_pos hO, ↓bnd2_of (show cal (q + 1) (fun zz => f_X11_isSlot zz x1 (wI M 89 0 0)) = _ from e)]
  · have e := a1 s1 hs1 hx1
    have e2 := b2 hx
    refine ee.trans ?_
    unfold T_X11_alike_0
    simp only [↓reduceIte, ↓gd_pos hO, ↓bnd2_of (show cal (q + 1) (fun zz => f_X11_isSlot zz x1 (wI M 89 0 0)) = _ from e), une, ↓bnd2_of (show cal (q + 1) (fun zz => f_X11_isSlot zz x2 (wI M 89 0 0)) = _ from e2)]
  · have e := a1 s1 hs1 hx1
    have e2 := b1 s2 hs2 hx2
    subst hx1 hx2
    refine ⟨fun hN => ?_, fun t1 t2 o1 o2 v hT1 hT2 hn1 hn2 hv => ?_⟩
    · refine ee.trans ?_
      unfold T_X11_alike_0
      by_cases qn : T s1 = none
      · have e3 := rx_void h0 hs1 qn q
        simp only [↓reduceIte, ↓gd_pos hO, ↓gd_pos hO0, ↓bnd2_of (show cal (q + 1) (fun zz => f_X11_isSlot zz (nI s1) (wI M 89 0 0)) = _ from e), une, ↓bnd2_of (show cal (q + 1) (fun zz => f_X11_isSlot zz (nI s2) (wI M 89 0 0)) = _ from e2), ↓bnd2_of (show cal (q + 1) (fun zz => f_X11_isEmpty zz 89 (nI s1) (wI M 89 0 0)) = _ from e3)]
      · obtain ⟨t, ht⟩ : ∃ t, T s1 = some t := by
          cases hq : T s1 with
          | none => exact absurd hq qn
          | some t => exact ⟨t, rfl⟩
        obtain ⟨o1, o2, -⟩ := hA.2.2.2 s1 t hs1 ht
        have e3 := rx_filled h0 hs1 o1 o2 ht q
        have e4 := rx_void h0 hs2 (hN.resolve_left qn) q
        simp only [↓reduceIte, ↓gd_pos hO, ↓gd_pos hO0, ↓bnd2_of (show cal (q + 1) (fun zz => f_X11_isSlot zz (nI s1) (wI M 89 0 0)) = _ from e), une, ↓bnd2_of (show cal (q + 1) (fun zz => f_X11_isSlot zz (nI s2) (wI M 89 0 0)) = _ from e2), ↓bnd2_of (show cal (q + 1) (fun zz => f_X11_isEmpty zz 89 (nI s1) (wI M 89 0 0)) = _ from e3), ↓bnd2_of (show cal (q + 1) (fun zz => f_X11_isEmpty zz 89 (nI s2) (wI M 89 0 0)) = _ from e4)]
    · obtain ⟨i1, z1, l1⟩ := hA.2.2.2 s1 t1 hs1 hT1
      obtain ⟨i2, z2, l2⟩ := hA.2.2.2 s2 t2 hs2 hT2
      obtain ⟨w1, hw1⟩ := hTy s1 t1 hs1 hT1
      obtain ⟨w2, hw2⟩ := hTy s2 t2 hs2 hT2
      have h6 := h.2.2.1.2.1
      have e3 := rx_filled h0 hs1 i1 z1 hT1 q
      have e4 := rx_filled h0 hs2 i2 z2 hT2 q
      obtain ⟨Mk, hMk⟩ : ∃ Mk, Mk = wI (wI M 89 0 0) 89 8 1 := ⟨_, rfl⟩
      have Fk' : Fr (fun a k => a = 89 ∧ k = 8) (wI M 89 0 0) Mk := by rw [hMk]; exact Fr.refl.wI ⟨rfl, rfl⟩ _
      have Rk : RfS Mk c H gf T CI K := h0.w Fk' (fun a k q => by omega)
      have k8 : Mk.2.2.1 89 8 = 1 := by rw [hMk]; simp [up2_if]
      have F0k : Fr SAr2 M Mk := F0.trans (Fk'.mono (fun a k q => by unfold SAr2; omega))
      obtain ⟨c1, M1, y1, F1, R1, W1, -, G1⟩ := rx_takesG Rk hA hK (Or.inr k8) hs1 hT1 (k + 203)
      rw [show k + 203 + 204 = q by omega] at y1
      have h81 : M1.2.2.1 89 8 = 1 := (F1.int (by unfold STk STd STr; omega)).trans k8
      obtain ⟨p1, p2⟩ := rx_normalizeG hA hK hK2 k R1 (Or.inr h81) i1 z1 W1 hw1 hn1
      rw [show k + 407 = q by omega] at p1 p2
      -- what is known of the first proof's steps
      obtain ⟨v1, M2, c2, u1, y2, F2, R2, W2, n2, hu1, hsg⟩ : ∃ v1 M2 c2 u1, f_X11_normalize q 89 M1 = some (v1, M2) ∧ Fr SNz M1 M2 ∧ RfS M2 c2 H gf T CI K ∧ WrkR M2 c2 (rws u1) ∧ sz u1 ≤ 200 ∧ (∀ r, o1 = some r → u1 = r.2 ∧ nmL (rws u1)) ∧ ((o1 = none ∧ v1 = -4) ∨ ∃ r, o1 = some r ∧ v1 = nI r.1.length ∧ r.1.length ≤ 60) := by
        cases ho : o1 with
        | none =>
          obtain ⟨M2, c2, u, g1, g2, g3, g4, g5, -⟩ := p1 ho
          exact ⟨-4, M2, c2, u, g1, g2, g3, g4, g5.2.1, fun r e => (by cases e), Or.inl ⟨rfl, rfl⟩⟩
        | some r =>
          obtain ⟨M2, c2, g1, g2, g3, g4, g5, -⟩ := p2 r ho
          have hn1' := hn1
          rw [ho] at hn1'
          obtain ⟨j1, j2, j3, j4, -, -⟩ := hn1'.ok 60 i1 z1 hw1
          exact ⟨_, M2, c2, r.2, g1, g2, g3, g4, j2, fun r' e => (by cases e; exact ⟨rfl, nmL_of h6 j1 j2 j3⟩), Or.inr ⟨r, rfl, rfl, j4⟩⟩
      have h82 : M2.2.2.1 89 8 = 1 := (F2.int (by unfold SNz SSq SSp SR STd; omega)).trans h81
      obtain ⟨M3, y3, F3, H3⟩ := rx_keepsBeside R2.1 W2 (by rw [rws_len]; exact n2) q
      have R3 := R2.w F3 (fun a k q => by unfold SKb at q; omega)
      have h83 : M3.2.2.1 89 8 = 1 := (F3.int (by unfold SKb; omega)).trans h82
      obtain ⟨c4, M4, y4, F4, R4, W4, -, G4⟩ := rx_takesG R3 hA hK (Or.inr h83) hs2 hT2 (k + 203)
      rw [show k + 203 + 204 = q by omega] at y4
      have h84 : M4.2.2.1 89 8 = 1 := (F4.int (by unfold STk STd STr; omega)).trans h83
      have H4 : ThR M4 c4 (rws u1) := H3.mv F4 (fun a k q => by unfold STk STd STr at q; unfold SKb; omega) (G4 h83).2 (G4 h83).1
      have F04 : Fr SAr2 M M4 := (((F0k.trans (F1.mono (fun a k q => SAr2.tk q))).trans (F2.mono (fun a k q => Or.inl q))).trans (F3.mono (fun a k q => Or.inr (Or.inr (Or.inl q))))).trans (F4.mono (fun a k q => SAr2.tk q))
      have hW1 := R1.1
      have hW2 := R2.1
      have hW3 := R3.1
      have hW4 := R4.1
      have go : f_X11_alike (q + 1) 89 (nI s1) (nI s2) M = if 0 ≤ v1 then bnd2 (cal (q + 1) (fun zz => f_X11_normalize zz 89 M4)) none (fun v59 M60 => lp (st_X11_alike (q + 1)) (77, [.ref 89, .int v59], M60)) else lp (st_X11_alike (q + 1)) (77, [.ref 89, .int v1], M4) := by
        refine ee.trans ?_
        unfold T_X11_alike_0
        have y1' : f_X11_takes q 89 (nI s1) (wI (wI M 89 0 0) 89 8 1) = some ((), M1) := by rw [← hMk]; exact y1
        simp only [↓reduceIte, ↓gd_pos hO, ↓gd_pos hO0, ↓bnd2_of (show cal (q + 1) (fun zz => f_X11_isSlot zz (nI s1) (wI M 89 0 0)) = _ from e), une, ↓bnd2_of (show cal (q + 1) (fun zz => f_X11_isSlot zz (nI s2) (wI M 89 0 0)) = _ from e2), ↓bnd2_of (show cal (q + 1) (fun zz => f_X11_isEmpty zz 89 (nI s1) (wI M 89 0 0)) = _ from e3), ↓bnd2_of (show cal (q + 1) (fun zz => f_X11_isEmpty zz 89 (nI s2) (wI M 89 0 0)) = _ from e4), ↓bnd2_of (show cal (q + 1) (fun zz => f_X11_takes zz 89 (nI s1) (wI (wI M 89 0 0) 89 8 1)) = _ from y1'), ↓gd_pos (fO_R hW1), ↓bnd2_of (show cal (q + 1) (fun zz => f_X11_normalize zz 89 M1) = _ from y2), ↓gd_pos (fO_R hW2), ↓bnd2_of (show cal (q + 1) (fun zz => f_X11_keepsBeside zz 89 M2) = _ from y3), ↓gd_pos (fO_R hW3), ↓bnd2_of (show cal (q + 1) (fun zz => f_X11_takes zz 89 (nI s2) M3) = _ from y4), ↓gd_pos (fO_R hW4)]
      -- how it ends
      have fin : ∀ {M5 : Mem} {c5 : Nat} {u : Tm}, RfS M5 c5 H gf T CI K → WrkR M5 c5 (rws u) → OkT CI u → Fr SAr2 M M5 → RfS (wI M5 89 8 0) c5 H gf T CI K ∧ WkG (wI M5 89 8 0) c5 CI 0 ∧ Fr SAr2 M (wI M5 89 8 0) ∧ (wI M5 89 8 0).2.2.1 89 8 = 0 := by
        intro M5 c5 u g1 g2 g3 g4
        have F5 : Fr (fun a k => a = 89 ∧ k = 8) M5 (wI M5 89 8 0) := Fr.refl.wI ⟨rfl, rfl⟩ _
        exact ⟨g1.w F5 (fun a k q => by omega), WkG_of (show WrkR (wI M5 89 8 0) c5 (rws u) from g2) g3, g4.trans (F5.mono (fun a k q => by unfold SAr2; omega)), by simp [up2_if]⟩
      have neg : ∀ {M5 : Mem}, Wd M5 → lp (st_X11_alike (q + 1)) (77, [.ref 89, .int (-4)], M5) = some (-4, wI M5 89 8 0) := by
        intro M5 g1
        refine (ge_X11_alike_77 (q + 1) 89 (-4) M5).trans ?_
        unfold T_X11_alike_77
        simp only [↓gd_pos (fO_R g1), show ((0 : Int32) ≤ -4) = False from eq_false (by decide), ↓reduceIte]
      rcases hv with ⟨ho, rfl⟩ | ⟨r1, ho, hv⟩
      · have hv1 : v1 = -4 := by
          rcases hsg with ⟨-, g⟩ | ⟨r, g, -⟩
          · exact g
          · rw [ho] at g; cases g
        obtain ⟨g1, g2, g3, g4⟩ := fin R4 W4 ⟨i2, z2, l2⟩ F04
        refine ⟨wI M4 89 8 0, c4, ?_, g3, g4, g1, g2⟩
        rw [go, hv1, if_neg (by decide), neg hW4]
      · obtain ⟨hv1, hlen⟩ : v1 = nI r1.1.length ∧ r1.1.length ≤ 60 := by
          rcases hsg with ⟨g, -⟩ | ⟨r, g, g2, g3⟩
          · rw [ho] at g; cases g
          · rw [ho] at g; cases g; exact ⟨g2, g3⟩
        have hk1 : (0 : Int32) ≤ v1 := by rw [hv1, show (0 : Int32) = nI 0 from rfl, nI_le_ (by omega) (by omega)]; omega
        obtain ⟨p3, p4⟩ := rx_normalizeG hA hK hK2 k R4 (Or.inr h84) i2 z2 W4 hw2 hn2
        rw [show k + 407 = q by omega] at p3 p4
        rcases hv with ⟨ho2, rfl⟩ | ⟨r2, ho2, hv⟩
        · obtain ⟨M5, c5, u, y5, F5, R5, W5, O5, -⟩ := p3 ho2
          obtain ⟨g1, g2, g3, g4⟩ := fin R5 W5 O5 (F04.trans (F5.mono (fun a k q => Or.inl q)))
          refine ⟨wI M5 89 8 0, c5, ?_, g3, g4, g1, g2⟩
          rw [go, if_pos hk1]
          rw [bnd2_of (show cal (q + 1) (fun zz => f_X11_normalize zz 89 M4) = some (-4, M5) from y5)]
          exact neg R5.1
        · obtain ⟨M5, c5, y5, F5, R5, W5, -, G5⟩ := p4 r2 ho2
          have hn2' := hn2
          rw [ho2] at hn2'
          obtain ⟨j1, j2, j3, j4, -, -⟩ := hn2'.ok 60 i2 z2 hw2
          obtain ⟨g1, g2, g3, g4⟩ := fin R5 W5 ⟨j1, j2, lab_ok (OkF.pt hA.1) _ j1 j3⟩ (F04.trans (F5.mono (fun a k q => Or.inl q)))
          refine ⟨wI M5 89 8 0, c5, ?_, g3, g4, g1, g2⟩
          have H5 : ThR M5 c5 (rws u1) := H4.mv F5 (fun a k q => by unfold SNz SSq SSp SR STd at q; unfold SKb; omega) (G5 h84).2 (G5 h84).1
          obtain ⟨hu2, hu3⟩ := hu1 r1 ho
          have W6 : WrkR (wI M5 89 8 0) c5 (rws r2.2) := W5
          have H6 : ThR (wI M5 89 8 0) c5 (rws u1) := H5
          obtain ⟨t1', t2'⟩ := rx_isThen g1.1 g1.2.1 W6 H6 (nmL_of h6 j1 j2 j3) hu3 q
          have hk2 : ((0 : Int32) ≤ nI r2.1.length) = True := eq_true (by rw [show (0 : Int32) = nI 0 from rfl, nI_le_ (by omega) (by omega)]; omega)
          rw [go, if_pos hk1]
          rw [bnd2_of (show cal (q + 1) (fun zz => f_X11_normalize zz 89 M4) = some (nI r2.1.length, M5) from y5)]
          refine (ge_X11_alike_77 (q + 1) 89 (nI r2.1.length) M5).trans ?_
          unfold T_X11_alike_77
          rw [hu2] at t1' t2'
          rcases hv with ⟨hq1, rfl⟩ | ⟨hq1, rfl⟩
          · have y6 := t1' hq1.symm
            simp only [↓gd_pos (fO_R R5.1), hk2, ↓reduceIte, ↓bnd2_of (show cal (q + 1) (fun zz => f_X11_isThen zz 89 (wI M5 89 8 0)) = _ from y6), une]
          · have y6 := t2' (fun z => hq1 z.symm)
            simp only [↓gd_pos (fO_R R5.1), hk2, ↓reduceIte, ↓bnd2_of (show cal (q + 1) (fun zz => f_X11_isThen zz 89 (wI M5 89 8 0)) = _ from y6)]
end RAL
