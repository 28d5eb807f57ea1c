/-! THE REFERENCE's STATE under takes and steps -/
def RfS (M : Mem) (c : Nat) (H : List (Nat × Fm)) (gf : Fm) (T : Nat → Option Tm) (CI : Fm → Prop) (K : Nat) : Prop := Wd M ∧ TabR M c ∧ HyR M 15 96 97 98 c H ∧ GlR M c gf ∧ SlR M c T ∧ FewR M c CI K
def OkA (CI : Fm → Prop) (H : List (Nat × Fm)) (gf : Fm) (T : Nat → Option Tm) : Prop := Cls CI ∧ (∀ x, x ∈ H → OkF CI x.2) ∧ OkF CI gf ∧ ∀ s t, s < 4 → T s = some t → OkT CI t
theorem OkF.pt {CI : Fm → Prop} (h : Cls CI) : ∀ j a b, 9 ≤ j → j ≤ 11 → OkF CI (mkF j a b) → OkF CI a ∧ OkF CI b := fun j a b h1 h2 q => by
  have := h.1 j a b h1 h2 q.1
  have hd := q.2
  rw [dpf_mk] at hd
  exact ⟨⟨this.1, by omega⟩, ⟨this.2, by omega⟩⟩
theorem lab_ok {P : Fm → Prop} (hP : ∀ j a b, 9 ≤ j → j ≤ 11 → P (mkF j a b) → P a ∧ P b) {h : Nat} {H : Nat → Fm} : ∀ t, isT t → ∀ {p : Nat} {G : Nat → Fm} {d : Nat} {x : Fm}, Wc P h H t p G d x → ∀ nd, nd ∈ rws t → tf nd.1 → P nd.2 := by
  apply tm_ind
  · intro k p G d x w nd hn ht
    rw [rws_L, List.mem_singleton] at hn
    subst hn
    unfold tf at ht
    replace ht : (1 : Nat) = 2 ∨ (1 : Nat) = 7 ∨ (1 : Nat) = 8 ∨ (1 : Nat) = 10 := ht
    omega
  · intro k p G d x w nd hn ht
    rw [rws_H, List.mem_singleton] at hn
    subst hn
    unfold tf at ht
    replace ht : (1 : Nat) = 2 ∨ (1 : Nat) = 7 ∨ (1 : Nat) = 8 ∨ (1 : Nat) = 10 := ht
    omega
  · intro o f a ho _ ih p G d x ⟨q1, y, q2, q3⟩ nd hn ht
    rw [rws_U, List.mem_cons] at hn
    rcases hn with rfl | hn
    · have q1 : P x := q1
      replace ht : o = 2 ∨ o = 7 ∨ o = 8 ∨ o = 10 := ht
      rcases q3 with ⟨-, e⟩ | ⟨e, -⟩ | ⟨e, -⟩ | ⟨-, e⟩ | ⟨-, e⟩ | ⟨-, -, e⟩
      · rw [e] at q1
        exact (hP 9 f y (by omega) (by omega) q1).1
      · omega
      · omega
      · rw [e] at q1
        exact (hP 11 y f (by omega) (by omega) q1).2
      · rw [e] at q1
        exact (hP 11 f y (by omega) (by omega) q1).1
      · rw [e] at q1
        exact q1
    · exact ih q2 nd hn ht
  · intro o a b ho _ _ ia ib p G d x ⟨q1, y, z, q2, q3, q4⟩ nd hn ht
    rw [rws_B, List.mem_cons, List.mem_append] at hn
    rcases hn with rfl | hn | hn
    · replace ht : o = 2 ∨ o = 7 ∨ o = 8 ∨ o = 10 := ht
      omega
    · exact ia q2 nd hn ht
    · exact ib q3 nd hn ht
  · intro m a b _ _ _ im ia ib p G d x ⟨q1, y, z, q2, q3, q4⟩ nd hn ht
    rw [rws_C, List.mem_cons, List.mem_append, List.mem_append] at hn
    rcases hn with rfl | hn | hn | hn
    · replace ht : (9 : Nat) = 2 ∨ (9 : Nat) = 7 ∨ (9 : Nat) = 8 ∨ (9 : Nat) = 10 := ht
      omega
    · exact im q2 nd hn ht
    · exact ia q3 nd hn ht
    · exact ib q4 nd hn ht
section RFS
variable {M M1 : Mem} {c c1 : Nat} {H : List (Nat × Fm)} {gf : Fm} {T : Nat → Option Tm} {CI : Fm → Prop} {K : Nat}
theorem FewR.mono {K1 : Nat} (h : FewR M c CI K) (hk : K ≤ K1) : FewR M c CI K1 := by
  obtain ⟨E, hN⟩ := h
  refine ⟨E, fun i h1 h2 => ?_⟩
  rcases hN i h1 h2 with q | ⟨j, j1, j2⟩
  · exact Or.inl q
  · exact Or.inr ⟨j, by omega, j2⟩
theorem FewR.cap {E : Nat → Fm} (hC : Cls CI) (hk : K ≤ 11000) : HCp 0 (fun f => CI f ∨ ∃ j, j < K ∧ E j = f) := by
  intro M c hT hN
  obtain ⟨F, hF⟩ := hC.2
  have := cnt_le (E := fun i => if i < 5200 then F i else E (i - 5200)) (N := 5200 + K) (n := c) (g := dR M) (fun i hi => by
    rcases hN i (Nat.zero_le _) hi with q | ⟨j, j1, j2⟩
    · obtain ⟨x, x1, x2⟩ := hF _ q
      exact ⟨x, by omega, by show (if x < 5200 then F x else _) = _; rw [if_pos x1, x2]⟩
    · exact ⟨5200 + j, by omega, by show (if 5200 + j < 5200 then _ else E (5200 + j - 5200)) = _; rw [if_neg (by omega), show 5200 + j - 5200 = j by omega, j2]⟩) (fun i j hi hj e => hT.inj hi hj e)
  omega
theorem SlR.mv {S : Nat → Nat → Prop} (h : SlR M c T) (hF : Fr S M M1) (hS : ∀ a k, S a k → ¬ (102 ≤ a ∧ a ≤ 104)) (hd : ∀ i, i < c → dR M1 i = dR M i) (hc : c ≤ c1) : SlR M1 c1 T := fun s hs => by
  obtain ⟨g1, g2⟩ := h s hs
  refine ⟨fun q => (hF.int (fun z => hS _ _ z (by omega))).trans (g1 q), fun t q => ?_⟩
  obtain ⟨a1, a2⟩ := g2 t q
  exact ⟨(hF.int (fun z => hS _ _ z (by omega))).trans a1, a2.mv (fun i _ => hF.int (fun z => hS _ _ z (by omega))) (fun i _ => hF.int (fun z => hS _ _ z (by omega))) hd hc⟩
/-- the state is kept where none of it is written, and the table may grow -/
theorem RfS.mv {S : Nat → Nat → Prop} (h : RfS M c H gf T CI K) (hF : Fr S M M1) (hS : ∀ a k, S a k → ¬ (96 ≤ a ∧ a ≤ 98) ∧ ¬ (102 ≤ a ∧ a ≤ 104) ∧ ¬ (a = 89 ∧ (k = 15 ∨ k = 16))) (hT : TabR M1 c1) (hd : ∀ i, i < c → dR M1 i = dR M i) (hc : c ≤ c1) (hK : FewR M1 c1 CI K) : RfS M1 c1 H gf T CI K := by
  obtain ⟨hW, -, hH, ⟨v, v1, v2, v3⟩, hSl, -⟩ := h
  exact ⟨hF.Wd hW, hT, hH.mv hF (fun q => (hS _ _ q).2.2 (by omega)) (fun a k q => (hS _ _ q).1) hd hc, ⟨v, by omega, (hF.int (fun q => (hS _ _ q).2.2 (by omega))).trans v2, (hd v v1).trans v3⟩, hSl.mv hF (fun a k q => (hS _ _ q).2.1) hd hc, hK⟩
theorem FewR.same (h : FewR M c CI K) (e : ∀ i, i < c → dR M1 i = dR M i) : FewR M1 c CI K := by
  obtain ⟨E, hN⟩ := h
  exact ⟨E, fun i h1 h2 => by rw [e i h2]; exact hN i h1 h2⟩
theorem RfS.w {S : Nat → Nat → Prop} (h : RfS M c H gf T CI K) (hF : Fr S M M1) (hS : ∀ a k, S a k → ¬ (90 ≤ a ∧ a ≤ 98) ∧ ¬ (102 ≤ a ∧ a ≤ 104) ∧ ¬ (a = 89 ∧ (k = 7 ∨ k = 15 ∨ k = 16))) : RfS M1 c H gf T CI K := by
  obtain ⟨T1, d1⟩ := tabR_mv h.2.1 hF (fun q => (hS _ _ q).2.2 (by omega)) (fun a k q => by have := (hS _ _ q).1; omega)
  exact h.mv hF (fun a k q => by have := hS _ _ q; omega) T1 (fun i _ => d1 i) (Nat.le_refl _) (h.2.2.2.2.2.same (fun i _ => d1 i))
theorem WkG_of {t : Tm} (h : WrkR M c (rws t)) (ht : OkT CI t) : WkG M c CI 0 := by
  refine ⟨(rws t).length, h.2.1, h.1, fun i hi => ?_⟩
  have := row_nb h.2.2 ht.2.2 hi
  rw [Nat.zero_add] at this
  rcases this with q | q | ⟨v, v1, v2, v3⟩
  · exact Or.inl q
  · exact Or.inr (Or.inl q)
  · exact Or.inr (Or.inr ⟨v, v1, v2, v3.2, Or.inl v3.1⟩)
/-- while all is kept the table only grows -/
def Gro (M : Mem) (c : Nat) (M1 : Mem) (c1 : Nat) : Prop := M.2.2.1 89 8 = 1 → c ≤ c1 ∧ ∀ i, i < c → dR M1 i = dR M i
theorem Gro.trans {M2 : Mem} {c2 : Nat} (h : Gro M c M1 c1) (e : M1.2.2.1 89 8 = M.2.2.1 89 8) (g : Gro M1 c1 M2 c2) : Gro M c M2 c2 := fun q => by
  obtain ⟨h1, h2⟩ := h q
  obtain ⟨g1, g2⟩ := g (e.trans q)
  exact ⟨Nat.le_trans h1 g1, fun i hi => (g2 i (Nat.lt_of_lt_of_le hi h1)).trans (h2 i hi)⟩
theorem tid_any (h : RfS M c H gf T CI K) (hA : OkA CI H gf T) (hK : 8191 ≤ K) {z : Nat} (hz : z ≤ 121) (hw : WkG M c CI z) (h8 : M.2.2.1 89 8 = 0 ∨ M.2.2.1 89 8 = 1) (k : Nat) : ∃ c1 M1, f_X11_tidies (k + 203) 89 M = some ((), M1) ∧ Fr STd M M1 ∧ RfS M1 c1 H gf T CI K ∧ WkG M1 c1 CI z ∧ (M.2.2.1 89 8 = 0 → FewR M1 c1 CI 8191 ∧ c1 ≤ 12460 ∧ (z = 0 → c1 ≤ 8191)) ∧ (∀ l, WrkR M c l → WrkR M1 c1 l) ∧ Gro M c M1 c1 := by
  have h0 := h
  obtain ⟨hW, hT, hH, hG, hSl, hF⟩ := h
  rcases h8 with q | q
  · obtain ⟨c1, M1, y1, F1, T1, H1, G1, S1, W1, f1, r1⟩ := tid_all hW hT q hH hA.2.1 hG hA.2.2.1 hSl hA.2.2.2 hz hw hA.1 k
    exact ⟨c1, M1, y1, F1, ⟨F1.Wd hW, T1, H1, G1, S1, f1.1.mono hK⟩, W1, fun _ => f1, r1, fun z => by rw [q] at z; exact absurd z (by decide)⟩
  · have hne : ¬ M.2.2.1 89 8 = 0 := by rw [q]; decide
    refine ⟨c, M, ?_, Fr.refl, h0, hw, fun z => absurd z hne, fun l hl => hl, fun _ => ⟨Nat.le_refl _, fun _ _ => rfl⟩⟩
    refine (ge_X11_tidies_0 (k + 203) 89 M).trans ?_
    unfold T_X11_tidies_0
    simp only [↓gd_pos (fO_R hW), hne, ↓reduceIte]
/-- a slot's proof is taken -/
theorem tk_loop (hW : Wd M) {s m : Nat} (hs : s < 4) (hm : m ≤ 200) (k : Nat) : ∀ z j, j + z = m → ∀ M1, Fr STr M M1 → M1.2.2.1 89 24 = nI m → (∀ u, u < j → M1.2.2.1 105 u = M.2.2.1 102 (200 * s + u) ∧ M1.2.2.1 106 u = M.2.2.1 103 (200 * s + u)) → ∃ M2, lp (st_X11_takes k) (21, [.ref 89, .int (nI s), .int (nI j)], M1) = some ((), M2) ∧ Fr STr M M2 ∧ M2.2.2.1 89 24 = nI m ∧ ∀ u, u < m → M2.2.2.1 105 u = M.2.2.1 102 (200 * s + u) ∧ M2.2.2.1 106 u = M.2.2.1 103 (200 * s + u) := by
  intro z
  induction z with
  | zero =>
    intro j hj M1 hF h24 hu
    have e : j = m := by omega
    subst e
    have hW1 := hF.Wd hW
    refine ⟨M1, ?_, hF, h24, hu⟩
    refine (ge_X11_takes_21 k 89 (nI s) (nI j) M1).trans ?_
    unfold T_X11_takes_21
    simp (disch := omega) only [↓gd_pos (fO_R hW1), h24, nI_le_, Nat.le_refl, ↓reduceIte]
  | succ z ih =>
    intro j hj M1 hF h24 hu
    have hW1 := hF.Wd hW
    have hA5 := fA_R hW1 (a := 105) (by omega) (s_105 hW1) (show j < 400 by omega) (by omega)
    have hA6 := fA_R hW1 (a := 106) (by omega) (s_106 hW1) (show j < 400 by omega) (by omega)
    have hA2 := fA_R hW1 (a := 102) (by omega) (s_102 hW1) (show 200 * s + j < 800 by omega) (by omega)
    have hA3 := fA_R hW1 (a := 103) (by omega) (s_103 hW1) (show 200 * s + j < 800 by omega) (by omega)
    have i2 : M1.2.2.1 102 (200 * s + j) = M.2.2.1 102 (200 * s + j) := hF.int (by unfold STr; omega)
    have i3 : M1.2.2.1 103 (200 * s + j) = M.2.2.1 103 (200 * s + j) := hF.int (by unfold STr; omega)
    obtain ⟨M2, e2, F2, g2, u2⟩ := ih (j + 1) (by omega) (wI (wI M1 105 j (M.2.2.1 102 (200 * s + j))) 106 j (M.2.2.1 103 (200 * s + j))) ((hF.wI (by unfold STr; omega) _).wI (by unfold STr; omega) _) (by simp [up2_if, h24]) (fun u hu2 => by
      by_cases q : u = j
      · subst q
        exact ⟨by simp [up2_if], by simp [up2_if]⟩
      · have := hu u (by omega)
        exact ⟨by simp [up2_if, q, this.1], by simp [up2_if, q, this.2]⟩)
    refine ⟨M2, Eq.trans ?_ e2, F2, g2, u2⟩
    refine (ge_X11_takes_21 k 89 (nI s) (nI j) M1).trans ?_
    unfold T_X11_takes_21
    have e200 : (200 : Int32) * nI s + nI j = nI (200 * s + j) := by rw [show (200 : Int32) = nI 200 from rfl, nI_mul, nI_add]
    simp (disch := omega) only [↓gd_pos (fO_R hW1), h24, nI_le_, eq_false (show ¬ m ≤ j by omega), ↓reduceIte, ↓bnd_of (r_89_20 hW1), ↓bnd_of (r_89_21 hW1), ↓bnd_of (r_89_17 hW1), ↓bnd_of (r_89_18 hW1), e200, ↓gd_pos hA5, ↓gd_pos hA6, ↓gd_pos hA2, ↓gd_pos hA3, nI_z, i2, nI_1, up2_if, Nat.reduceEqDiff, false_and, if_false, i3]
def STk (a k : Nat) : Prop := STd a k ∨ STr a k
theorem rx_takesG (h : RfS M c H gf T CI K) (hA : OkA CI H gf T) (hK : 8191 ≤ K) (h8 : M.2.2.1 89 8 = 0 ∨ M.2.2.1 89 8 = 1) {s : Nat} {t : Tm} (hs : s < 4) (hT : T s = some t) (k : Nat) : ∃ c1 M1, f_X11_takes (k + 204) 89 (nI s) M = some ((), M1) ∧ Fr STk M M1 ∧ RfS M1 c1 H gf T CI K ∧ WrkR M1 c1 (rws t) ∧ (M.2.2.1 89 8 = 0 → FewR M1 c1 CI 8191 ∧ c1 ≤ 8191) ∧ Gro M c M1 c1 := by
  have hW := h.1
  have F0 : Fr STr M (wI M 89 24 0) := Fr.refl.wI (by unfold STr; omega) _
  have R0 := h.w F0 (fun a k q => by unfold STr at q; omega)
  obtain ⟨c1, M1, y1, F1, R1, -, f1, -, gr⟩ := tid_any R0 hA hK (z := 0) (by omega) ⟨0, by omega, by simp [up2_if]; rfl, fun i hi => by omega⟩ (show (wI M 89 24 0).2.2.1 89 8 = 0 ∨ (wI M 89 24 0).2.2.1 89 8 = 1 by simp [up2_if]; exact h8) k
  have hW1 := R1.1
  obtain ⟨g1, g2⟩ := (R1.2.2.2.2.1 s hs).2 t hT
  have hsz := (hA.2.2.2 s t hs hT).2.1
  obtain ⟨M2, e2, F2, g24, u2⟩ := tk_loop hW1 hs hsz (k + 204) (sz t) 0 (by omega) (wI M1 89 24 (nI (sz t))) (Fr.refl.wI (by unfold STr; omega) _) (by simp [up2_if]) (fun u hu => by omega)
  have d2 : dR M2 = dR M1 := dR_fq F2.q (fun k q => by unfold STr at q; omega) (fun k q => by unfold STr at q; omega) (fun k q => by unfold STr at q; omega)
  refine ⟨c1, M2, ?_, ((F0.mono (fun a k q => Or.inr q)).trans (F1.mono (fun a k q => Or.inl q))).trans (F2.mono (fun a k q => Or.inr q)), R1.w F2 (fun a k q => by unfold STr at q; omega), ⟨g24, by rw [rws_len]; omega, g2.1, fun i nd hi => ?_⟩, fun q => ?_, fun q => ?_⟩
  · obtain ⟨q, hq⟩ : ∃ q, q = k + 203 := ⟨_, rfl⟩
    rw [← hq] at y1
    rw [show k + 204 = q + 1 by omega] at e2 ⊢
    have hA4 := fA_R hW1 (a := 104) (by omega) (s_104 hW1) hs (by omega)
    refine (ge_X11_takes_0 (q + 1) 89 (nI s) M).trans ?_
    unfold T_X11_takes_0
    simp (disch := omega) only [↓gd_pos (fO_R hW), ↓bnd2_of (show cal (q + 1) (fun zz => f_X11_tidies zz 89 (wI M 89 24 0)) = _ from y1), ↓gd_pos (fO_R hW1), ↓bnd_of (r_89_19 hW1), ↓gd_pos hA4, nI_z, g1]
    exact e2
  · obtain ⟨a1, a2⟩ := g2.2 i nd hi
    have := u2 i (opl_of hi).2.2
    rw [Nat.zero_add, this.1, this.2]
    exact ⟨a1, a2.mv (fun j _ => by rw [d2]) (Nat.le_refl _)⟩
  · have := f1 (by simp [up2_if]; exact q)
    exact ⟨this.1.same (fun i _ => by rw [d2]), this.2.2 rfl⟩
  · obtain ⟨g1, g2⟩ := gr (by simp [up2_if]; exact q)
    exact ⟨g1, fun i hi => by rw [d2]; exact g2 i hi⟩
theorem rx_takes (h : RfS M c H gf T CI K) (hA : OkA CI H gf T) (hK : 8191 ≤ K) (h8 : M.2.2.1 89 8 = 0 ∨ M.2.2.1 89 8 = 1) {s : Nat} {t : Tm} (hs : s < 4) (hT : T s = some t) (k : Nat) : ∃ c1 M1, f_X11_takes (k + 204) 89 (nI s) M = some ((), M1) ∧ Fr STk M M1 ∧ RfS M1 c1 H gf T CI K ∧ WrkR M1 c1 (rws t) ∧ (M.2.2.1 89 8 = 0 → FewR M1 c1 CI 8191 ∧ c1 ≤ 8191) := by
  obtain ⟨c1, M1, a1, a2, a3, a4, a5, -⟩ := rx_takesG h hA hK h8 hs hT k
  exact ⟨c1, M1, a1, a2, a3, a4, a5⟩
def SSq (a k : Nat) : Prop := SSp a k ∨ STd a k
/-- A STEP in the reference -/
theorem rx_stepsG (h : RfS M c H gf T CI K) (hA : OkA CI H gf T) (hK : 8191 ≤ K) (hK2 : K ≤ 11000) (h8 : M.2.2.1 89 8 = 0 ∨ M.2.2.1 89 8 = 1) {t : Tm} {x : Fm} (ht : isT t) (h2 : sz t ≤ 200) (hR : WrkR M c (rws t)) (hw : Wc (OkF CI) H.length (hF H) t 0 gN 0 x) (k : Nat) :
    (frx (rws t) (sz t) 0 = none → f_X11_steps (k + 406) 89 M = some (0, M)) ∧ ∀ kd t', StT H.length (hF H) t kd t' →
    (200 < sz t' → ∃ M1 c1, f_X11_steps (k + 406) 89 M = some (-4, M1) ∧ Fr SSq M M1 ∧ RfS M1 c1 H gf T CI K ∧ WrkR M1 c1 (rws t) ∧ Gro M c M1 c1) ∧
    (sz t' ≤ 200 → ∃ M1 c1, f_X11_steps (k + 406) 89 M = some (nI kd, M1) ∧ Fr SSq M M1 ∧ RfS M1 c1 H gf T CI K ∧ WrkR M1 c1 (rws t') ∧ Gro M c M1 c1) := by
  have h0 := h
  obtain ⟨hW, hT, hH, hG, hSl, E, hN⟩ := h
  have hwA : Wc (fun f => CI f ∨ ∃ j, j < K ∧ E j = f) H.length (hF H) t 0 gN 0 x := hw.imp t ht (fun i y _ _ q => Or.inl q.1)
  obtain ⟨p1, p2⟩ := rx_stepsA hW hT ht hR hH.s h2 hwA hN (FewR.cap hA.1 hK2) k
  refine ⟨p1, fun kd t' hst => ⟨fun hb => ?_, fun hf => ?_⟩⟩
  · obtain ⟨M1, c1, y1, F1, P1, R1⟩ := (p2 kd t' hst).1 hb
    exact ⟨M1, c1, y1, F1.mono (fun a k q => Or.inl q), h0.mv F1 (fun a k q => by unfold SSp SR at q; omega) P1.1 P1.2.2.1 P1.2.1 ⟨E, P1.2.2.2⟩, R1, fun _ => ⟨P1.2.1, P1.2.2.1⟩⟩
  · obtain ⟨M1, c1, y1, F1, P1, R1⟩ := (p2 kd t' hst).2 hf
    have S1 : RfS M1 c1 H gf T CI K := h0.mv F1 (fun a k q => by unfold SSp SR at q; omega) P1.1 P1.2.2.1 P1.2.1 ⟨E, P1.2.2.2⟩
    have hO : OkT CI t' := ⟨hst.tm, hf, lab_ok (OkF.pt hA.1) t' hst.tm (hst.wt ht hw)⟩
    obtain ⟨c2, M2, y2, F2, S2, -, -, r2, gr⟩ := tid_any S1 hA hK (z := 0) (by omega) (WkG_of R1 hO) (by rw [F1.int (by unfold SSp SR; omega)]; exact h8) (k + 202)
    rw [show k + 202 + 203 = k + 405 by omega] at y2
    exact ⟨M2, c2, y1 M2 y2, (F1.mono (fun a k q => Or.inl q)).trans (F2.mono (fun a k q => Or.inr q)), S2, r2 _ R1, Gro.trans (fun _ => ⟨P1.2.1, P1.2.2.1⟩) (F1.int (by unfold SSp SR; omega)) gr⟩
theorem rx_steps (h : RfS M c H gf T CI K) (hA : OkA CI H gf T) (hK : 8191 ≤ K) (hK2 : K ≤ 11000) (h8 : M.2.2.1 89 8 = 0 ∨ M.2.2.1 89 8 = 1) {t : Tm} {x : Fm} (ht : isT t) (h2 : sz t ≤ 200) (hR : WrkR M c (rws t)) (hw : Wc (OkF CI) H.length (hF H) t 0 gN 0 x) (k : Nat) :
    (frx (rws t) (sz t) 0 = none → f_X11_steps (k + 406) 89 M = some (0, M)) ∧ ∀ kd t', StT H.length (hF H) t kd t' →
    (200 < sz t' → ∃ M1 c1, f_X11_steps (k + 406) 89 M = some (-4, M1) ∧ Fr SSq M M1 ∧ RfS M1 c1 H gf T CI K ∧ WrkR M1 c1 (rws t)) ∧
    (sz t' ≤ 200 → ∃ M1 c1, f_X11_steps (k + 406) 89 M = some (nI kd, M1) ∧ Fr SSq M M1 ∧ RfS M1 c1 H gf T CI K ∧ WrkR M1 c1 (rws t')) := by
  obtain ⟨p1, p2⟩ := rx_stepsG h hA hK hK2 h8 ht h2 hR hw k
  refine ⟨p1, fun kd t' hst => ⟨fun hb => ?_, fun hf => ?_⟩⟩
  · obtain ⟨M1, c1, a1, a2, a3, a4, -⟩ := (p2 kd t' hst).1 hb
    exact ⟨M1, c1, a1, a2, a3, a4⟩
  · obtain ⟨M1, c1, a1, a2, a3, a4, -⟩ := (p2 kd t' hst).2 hf
    exact ⟨M1, c1, a1, a2, a3, a4⟩
end RFS
