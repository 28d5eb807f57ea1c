/-! ASK in the class: the loop, a stop at a time -/
def CzC (l : List (Nat × Tm)) (pa : Int32) (r : Nat) (cz : Prop) : Prop := (pa = -1 ∧ ¬ cz) ∨ ∃ q, q < l.length ∧ pa = nI q ∧ r < 10 ∧ (cz ↔ opl l q = 9 ∧ r = 0)
section AKL
variable {M M1 : Mem} {tr c c1 : Nat} {l : List (Nat × Tm)}
theorem LtC.up {S : Nat → Nat → Prop} (h : LtC M tr c l) (hF : Fr S M M1) (hS : ∀ a k, S a k → a ≤ 9 ∨ (40 ≤ a ∧ a ≤ 49)) (hd : ∀ i, i < c → dC M1 i = dC M i) (hc : c ≤ c1) : LtC M1 tr c1 l := by
  obtain ⟨h1, h2, h3, h4⟩ := h
  have hT : ¬ (tr ≤ 9 ∨ (40 ≤ tr ∧ tr ≤ 49)) ∧ ¬ (tr + 1 ≤ 9 ∨ (40 ≤ tr + 1 ∧ tr + 1 ≤ 49)) ∧ ¬ (tr + 2 ≤ 9 ∨ (40 ≤ tr + 2 ∧ tr + 2 ≤ 49)) := by
    unfold TOb at h3
    omega
  exact ⟨hF.Wd h1, by rw [hF.2.2.1]; exact h2, h3, h4.mv (hF.int (fun q => hT.1 (hS _ _ q))) (hF.ints (fun k q => hT.2.1 (hS _ _ q))) (hF.ints (fun k q => hT.2.2 (hS _ _ q))) hd hc⟩
theorem HyC.up {S : Nat → Nat → Prop} {Hl : List (Nat × Fm)} (h : HyC M 10 c Hl) (hF : Fr S M M1) (hS : ∀ a k, S a k → a ≤ 9 ∨ 14 ≤ a) (hd : ∀ i, i < c → dC M1 i = dC M i) (hc : c ≤ c1) : HyC M1 10 c1 Hl := by
  have e : ∀ a k, 10 ≤ a → a ≤ 13 → M1.2.2.1 a k = M.2.2.1 a k := fun a k h1 h2 => hF.int (fun q => by have := hS _ _ q; omega)
  refine ⟨(e 10 3 (by omega) (by omega)).trans h.1, h.2.1, fun j hj => ?_⟩
  obtain ⟨v, g1, g2, g3, g4, g5, g6⟩ := h.2.2 j hj
  exact ⟨v, by omega, (e 11 j (by omega) (by omega)).trans g2, (e 12 j (by omega) (by omega)).trans g3, (hd v g1).trans g4, (e 13 j (by omega) (by omega)).trans g5, g6⟩
theorem TkO.up {S : Nat → Nat → Prop} {lim lim1 q0 : Nat} {f : Fm} (h : TkO M c l lim q0 f) (hF : Fr S M M1) (h43 : ∀ k, ¬ S 43 k) (h44 : ∀ k, ¬ S 44 k) (h48 : ∀ k, k < lim → ¬ S 48 k) (hd : ∀ i, i < c → dC M1 i = dC M i) (hc : c ≤ c1) (hl : lim ≤ lim1) (hl2 : lim1 ≤ 200) : TkO M1 c1 l lim1 q0 f := by
  obtain ⟨h1, q, r, h2, h3, h4, h5, h6⟩ := h
  refine ⟨h1, q, r, h2, (hF.int (h43 _)).trans h3, (hF.int (h44 _)).trans h4, h5, ?_⟩
  rcases h6 with h6 | ⟨g1, g2, g3, v, x, y, g4, g5, g6, g7⟩
  · exact Or.inl h6
  · exact Or.inr ⟨g1, by omega, hl2, v, x, y, by omega, (hF.int (h48 _ g2)).trans g5, (hd v g4).trans g6, g7⟩
theorem c_stop (hW : Wd M) {W : List Int32} (hw : wkC M W) (k : Nat) {K : Nat} {x : Int32} (hK : W[K]? = some x) : f_X3_stop (k + 1) 40 (nI K) M = some (x, M) := by
  have hlt : K < W.length := by
    apply Nat.lt_of_not_le
    intro q
    rw [List.getElem?_eq_none q] at hK
    cases hK
  have h4 := hw.2.1
  have e : aLen M 49 = some 400 := by simp [aLen, W_40 hW]
  have ea : f_X10_at k 49 (nI K) M = some (x, M) := by
    unfold f_X10_at b_X10_at
    simp (disch := omega) only [T_X10_at_0, nI_lt0, if_false, e, bnd_s, show Int32.ofNat 400 = nI 400 from rfl, nI_le_, W_40 hW, gd_true, fA, ex_in, Nat.reduceLT, true_and, and_self, nI_z, vp_iff, hw.2.2 K x hK]
    rw [if_neg (by omega), gd_pos (by omega)]
  unfold f_X3_stop b_X3_stop
  simp (disch := omega) only [T_X3_stop_0, nI_lt0, if_false, W_40 hW, gd_true, fO, Nat.reduceLT, and_self, hw.1, nI_le_, bnd_s, cal_s, ea, bnd2_s]
  rw [if_neg (by omega)]
set_option maxHeartbeats 1000000 in
theorem ak_skip (hW : Wd M) {W : List Int32} (hw : wkC M W) (k : Nat) {K : Nat} {x : Int32} (hK : W[K]? = some x) (hx : x < 0) : lp (st_X3_ask (k + 2)) (2, [.ref 40, .int (nI K)], M) = lp (st_X3_ask (k + 2)) (2, [.ref 40, .int (nI (K + 1))], M) := by
  have hlt : K < W.length := by
    apply Nat.lt_of_not_le
    intro q
    rw [List.getElem?_eq_none q] at hK
    cases hK
  have h4 := hw.2.1
  have hO : fO M 40 3 := ⟨by rw [hW.1]; omega, s_40 hW⟩
  obtain ⟨n, hn⟩ : ∃ n, n = k + 1 := ⟨_, rfl⟩
  have es := c_stop hW hw k hK
  rw [← hn] at es
  rw [show k + 2 = n + 1 by omega]
  refine (ge_X3_ask_2 (n + 1) 40 (nI K) M).trans ?_
  unfold T_X3_ask_2
  simp (disch := omega) only [↓reduceIte, ↓gd_pos hO, hw.1, nI_le_, eq_false (show ¬ W.length ≤ K by omega), ↓bnd2_of (show cal (n + 1) (fun n => f_X3_stop n 40 (nI K) M) = _ from es), hx, nI_1]
set_option maxHeartbeats 1000000 in
theorem ak_bad (hL : LtC M tr c l) {W : List Int32} (hw : wkC M W) (k : Nat) {K p e : Nat} (hK : W[K]? = some (nI p)) (hp : p < l.length) (he : e < 1000) (hu : f_X3_unfitWithin (k + 2) 40 (nI p) M = some (nI e, M)) : lp (st_X3_ask (k + 3)) (2, [.ref 40, .int (nI K)], M) = some (nI e, M) := by
  have hW := hL.1
  have h2 := hL.2.2.2.2.1
  have hlt : K < W.length := by
    apply Nat.lt_of_not_le
    intro q
    rw [List.getElem?_eq_none q] at hK
    cases hK
  have h4 := hw.2.1
  have hO : fO M 40 3 := ⟨by rw [hW.1]; omega, s_40 hW⟩
  obtain ⟨n, hn⟩ : ∃ n, n = k + 2 := ⟨_, rfl⟩
  have es := c_stop hW hw (k + 1) hK
  rw [show k + 1 + 1 = n by omega] at es
  rw [← hn] at hu
  rw [show k + 3 = n + 1 by omega]
  refine (ge_X3_ask_2 (n + 1) 40 (nI K) M).trans ?_
  unfold T_X3_ask_2
  simp (disch := omega) only [↓reduceIte, ↓gd_pos hO, hw.1, nI_le_, eq_false (show ¬ W.length ≤ K by omega), ↓bnd2_of (show cal (n + 1) (fun n => f_X3_stop n 40 (nI K) M) = _ from es), nI_lt0, show (200 : Int32) = nI 200 from rfl, eq_false (show ¬ 200 ≤ p by omega), ↓bnd2_of (show cal (n + 1) (fun n => f_X3_unfitWithin n 40 (nI p) M) = _ from hu), nI_ne_m1]
theorem ak_81 (hW : Wd M) (hTb : TabC M c) (k : Nat) {K p v : Nat} (hp : p < 200) (hv : v < c) (e : M.2.2.1 48 p = nI v) : lp (st_X3_ask (k + 1)) (81, [.ref 40, .int (nI K), .int (nI p), .int 1], M) = if kdf (dC M v) = 11 then lp (st_X3_ask (k + 1)) (2, [.ref 40, .int (nI (K + 1))], M) else some (nI p, M) := by
  have h5 := hTb.2.1
  have hO : fO M 40 3 := ⟨by rw [hW.1]; omega, s_40 hW⟩
  have hO2 : fO M 2 1 := ⟨by rw [hW.1]; omega, s_2 hW⟩
  have hA : fA M 48 1 (nI p) := ⟨by rw [hW.1]; omega, 200, s_48 hW, vp_nI hp (by omega)⟩
  obtain ⟨k1, k2, -⟩ := hTb.kd hv
  have ek := c_kindOf hW hTb k hv
  rw [k1] at ek
  have E : cal (k + 1) (fun n => f_X1_kindOf n 2 (M.2.2.1 48 ((nI p).toNatClampNeg)) M) = some (nI (kdf (dC M v)), M) := by
    rw [cal_s, nI_z (by omega), e]
    exact ek
  refine (ge_X3_ask_81 (k + 1) 40 (nI K) (nI p) 1 M).trans ?_
  unfold T_X3_ask_81
  simp (disch := omega) only [↓reduceIte, show ((1 : Int32) = 0) = False from eq_false (by decide), ↓gd_pos hO, ↓gd_pos hO2, ↓gd_pos hA, ↓bnd_of (r_40_0 hW), ↓bnd_of (r_40_10 hW), ↓bnd2_of E, show (11 : Int32) = nI 11 from rfl, nI_eq_, nI_1]
theorem ak_80 (k : Nat) {K : Nat} {x : Int32} : lp (st_X3_ask (k + 1)) (81, [.ref 40, .int (nI K), .int x, .int 0], M) = lp (st_X3_ask (k + 1)) (2, [.ref 40, .int (nI (K + 1))], M) := by
  refine (ge_X3_ask_81 (k + 1) 40 (nI K) x 0 M).trans ?_
  unfold T_X3_ask_81
  simp only [↓reduceIte, nI_1]
set_option maxHeartbeats 1000000 in
theorem ak_go (hL : LtC M tr c l) {W : List Int32} (hw : wkC M W) (k : Nat) {K p v d r n0 : Nat} {pa : Int32} {cz : Prop} (hK : W[K]? = some (nI p)) (hp : p < l.length) (hu : f_X3_unfitWithin (k + 2) 40 (nI p) M = some (-1, M)) (hpv : f_X3_provenBy (k + 2) 40 (nI p) M = some (nI v, M1)) (L1 : LtC M1 tr c1 l) (T1 : TabC M1 c1) (hv : v < c1) (ha : at2 M1 p d pa r n0) (hcz : CzC l pa r cz) : (cz → kdf (dC M1 v) ≠ 11 → lp (st_X3_ask (k + 3)) (2, [.ref 40, .int (nI K)], M) = some (nI p, wI M1 48 p (nI v))) ∧ ((cz → kdf (dC M1 v) = 11) → lp (st_X3_ask (k + 3)) (2, [.ref 40, .int (nI K)], M) = lp (st_X3_ask (k + 3)) (2, [.ref 40, .int (nI (K + 1))], wI M1 48 p (nI v))) := by
  have hW := hL.1
  have h2 := hL.2.2.2.2.1
  have hlt : K < W.length := by
    apply Nat.lt_of_not_le
    intro q
    rw [List.getElem?_eq_none q] at hK
    cases hK
  have h4 := hw.2.1
  have hW1 := L1.1
  have hO : fO M 40 3 := ⟨by rw [hW.1]; omega, s_40 hW⟩
  have hO1 : fO M1 40 3 := ⟨by rw [hW1.1]; omega, s_40 hW1⟩
  have F2 : Fr (fun a j => a = 48 ∧ j = p) M1 (wI M1 48 p (nI v)) := Fr.refl.wI ⟨rfl, rfl⟩ _
  have L2 : LtC (wI M1 48 p (nI v)) tr c1 l := L1.fr F2 (fun a j q => by omega)
  have hO2 : fO (wI M1 48 p (nI v)) 40 3 := ⟨by rw [L2.1.1]; omega, s_40 L2.1⟩
  have hOt : fO (wI M1 48 p (nI v)) tr 9 := ⟨by rw [L2.1.1]; exact (TO_at L2.1 L2.2.2.1).2.2.2.2.2.1, (TO_at L2.1 L2.2.2.1).1⟩
  have hA : fA M1 48 1 (nI p) := ⟨by rw [hW1.1]; omega, 200, s_48 hW1, vp_nI (by omega) (by omega)⟩
  obtain ⟨n, hn⟩ : ∃ n, n = k + 2 := ⟨_, rfl⟩
  have es := c_stop hW hw (k + 1) hK
  rw [show k + 1 + 1 = n by omega] at es
  rw [← hn] at hu hpv
  rw [show k + 3 = n + 1 by omega]
  have a2 : at2 (wI M1 48 p (nI v)) p d pa r n0 := ha.mv F2 (by omega) (by omega) (by omega) (by omega)
  have Ep : cal (n + 1) (fun n => f_X3_parentOf n 40 (nI p) (wI M1 48 ((nI p).toNatClampNeg) (nI v))) = some (pa, wI M1 48 p (nI v)) := by
    rw [cal_s, nI_z (by omega), c_parentOf L2.1 n (by omega), a2.2.1]
  have d2 : dC (wI M1 48 p (nI v)) = dC M1 := rfl
  have T2 : TabC (wI M1 48 p (nI v)) c1 := T1
  have e81 := ak_81 L2.1 T2 n (K := K) (p := p) (v := v) (by omega) hv (by simp [up2_if])
  rw [d2] at e81
  have e80 := ak_80 (M := wI M1 48 p (nI v)) n (K := K) (x := nI p)
  rcases hcz with ⟨hpa, hn9⟩ | ⟨q, hq, hpa, hr, hiff⟩
  · refine ⟨fun q => (hn9 q).elim, fun _ => ?_⟩
    subst hpa
    have Eo : cal (n + 1) (fun n => f_X9_opAt n tr (-1) (wI M1 48 p (nI v))) = some (-1, wI M1 48 p (nI v)) := c_opAt_m1 n
    rw [← e80]
    refine (ge_X3_ask_2 (n + 1) 40 (nI K) M).trans ?_
    unfold T_X3_ask_2
    simp (disch := omega) only [↓reduceIte, ↓gd_pos hO, ↓gd_pos hO1, ↓gd_pos hO2, ↓gd_pos hOt, ↓gd_pos hA, hw.1, nI_le_, eq_false (show ¬ W.length ≤ K by omega), ↓bnd2_of (show cal (n + 1) (fun n => f_X3_stop n 40 (nI K) M) = _ from es), nI_lt0, show (200 : Int32) = nI 200 from rfl, eq_false (show ¬ 200 ≤ p by omega), ↓bnd2_of (show cal (n + 1) (fun n => f_X3_unfitWithin n 40 (nI p) M) = _ from hu), ↓bnd_of (r_40_10 hW), ↓bnd2_of (show cal (n + 1) (fun n => f_X3_provenBy n 40 (nI p) M) = _ from hpv), ↓bnd_of L1.2.1, ↓bnd2_of Ep, ↓bnd2_of Eo, show ((-1 : Int32) = 9) = False from eq_false (by decide)]
  · have Eo : cal (n + 1) (fun n => f_X9_opAt n tr pa (wI M1 48 p (nI v))) = some (nI (opl l q), wI M1 48 p (nI v)) := by
      rw [cal_s, hpa]
      exact c_opAt L2.1 L2.2.2.1 L2.2.2.2 n hq
    have ho := L2.2.2.2.2.2.1.at_ hq
    have Er : cal (n + 1) (fun n => f_X3_rankOf n 40 (nI p) (wI M1 48 p (nI v))) = some (nI r, wI M1 48 p (nI v)) := by
      rw [cal_s, c_rankOf L2.1 n (by omega), a2.2.2.1]
    by_cases h9 : opl l q = 9
    · by_cases h0 : r = 0
      · have hc : cz := hiff.mpr ⟨h9, h0⟩
        have e : lp (st_X3_ask (n + 1)) (2, [.ref 40, .int (nI K)], M) = lp (st_X3_ask (n + 1)) (81, [.ref 40, .int (nI K), .int (nI p), .int 1], wI M1 48 p (nI v)) := by
          refine (ge_X3_ask_2 (n + 1) 40 (nI K) M).trans ?_
          unfold T_X3_ask_2
          simp (disch := omega) only [↓reduceIte, ↓gd_pos hO, ↓gd_pos hO1, ↓gd_pos hO2, ↓gd_pos hOt, ↓gd_pos hA, hw.1, nI_le_, eq_false (show ¬ W.length ≤ K by omega), ↓bnd2_of (show cal (n + 1) (fun n => f_X3_stop n 40 (nI K) M) = _ from es), nI_lt0, show (200 : Int32) = nI 200 from rfl, eq_false (show ¬ 200 ≤ p by omega), ↓bnd2_of (show cal (n + 1) (fun n => f_X3_unfitWithin n 40 (nI p) M) = _ from hu), ↓bnd_of (r_40_10 hW), ↓bnd2_of (show cal (n + 1) (fun n => f_X3_provenBy n 40 (nI p) M) = _ from hpv), ↓bnd_of L1.2.1, ↓bnd2_of Ep, ↓bnd2_of Eo, show (9 : Int32) = nI 9 from rfl, nI_eq_, eq_true h9, ↓bnd2_of Er, show (nI r = (0 : Int32)) = True from eq_true (by rw [h0]; rfl)]
        rw [e, e81]
        exact ⟨fun _ q => if_neg q, fun q => if_pos (q hc)⟩
      · have hc : ¬ cz := fun q => h0 (hiff.mp q).2
        refine ⟨fun q => (hc q).elim, fun _ => ?_⟩
        rw [← e80]
        refine (ge_X3_ask_2 (n + 1) 40 (nI K) M).trans ?_
        unfold T_X3_ask_2
        simp (disch := omega) only [↓reduceIte, ↓gd_pos hO, ↓gd_pos hO1, ↓gd_pos hO2, ↓gd_pos hOt, ↓gd_pos hA, hw.1, nI_le_, eq_false (show ¬ W.length ≤ K by omega), ↓bnd2_of (show cal (n + 1) (fun n => f_X3_stop n 40 (nI K) M) = _ from es), nI_lt0, show (200 : Int32) = nI 200 from rfl, eq_false (show ¬ 200 ≤ p by omega), ↓bnd2_of (show cal (n + 1) (fun n => f_X3_unfitWithin n 40 (nI p) M) = _ from hu), ↓bnd_of (r_40_10 hW), ↓bnd2_of (show cal (n + 1) (fun n => f_X3_provenBy n 40 (nI p) M) = _ from hpv), ↓bnd_of L1.2.1, ↓bnd2_of Ep, ↓bnd2_of Eo, show (9 : Int32) = nI 9 from rfl, nI_eq_, eq_true h9, ↓bnd2_of Er, show (nI r = (0 : Int32)) = False from eq_false (fun q => h0 ((nI_eq (b := 0) (by omega) (by omega)).mp q))]
    · have hc : ¬ cz := fun q => h9 (hiff.mp q).1
      refine ⟨fun q => (hc q).elim, fun _ => ?_⟩
      rw [← e80]
      refine (ge_X3_ask_2 (n + 1) 40 (nI K) M).trans ?_
      unfold T_X3_ask_2
      simp (disch := omega) only [↓reduceIte, ↓gd_pos hO, ↓gd_pos hO1, ↓gd_pos hO2, ↓gd_pos hOt, ↓gd_pos hA, hw.1, nI_le_, eq_false (show ¬ W.length ≤ K by omega), ↓bnd2_of (show cal (n + 1) (fun n => f_X3_stop n 40 (nI K) M) = _ from es), nI_lt0, show (200 : Int32) = nI 200 from rfl, eq_false (show ¬ 200 ≤ p by omega), ↓bnd2_of (show cal (n + 1) (fun n => f_X3_unfitWithin n 40 (nI p) M) = _ from hu), ↓bnd_of (r_40_10 hW), ↓bnd2_of (show cal (n + 1) (fun n => f_X3_provenBy n 40 (nI p) M) = _ from hpv), ↓bnd_of L1.2.1, ↓bnd2_of Ep, ↓bnd2_of Eo, show (9 : Int32) = nI 9 from rfl, nI_eq_, eq_false h9]
end AKL
