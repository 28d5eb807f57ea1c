/-! THE INVARIANT over calls: drop, goal -/
section JG
variable {M M1 M2 : Mem} {c c1 cR cr : Nat} {b : Nat → Nat} {L L' : Nat} {H H' : List (Nat × Fm)} {gf gf' : Fm} {T T' : Nat → Option Tm} {ks : List Nat} {K k : Nat} {CI : Fm → Prop} {S SR : Nat → Nat → Prop}
theorem Jn.mk2 (hb : 1240 * c + 601 * L ≤ 12020 * k + 11160) (hm : MkC k M1) (hC1 : ClA M1 c b L H gf T ks) (hF2 : Fr SR M1 M2) (hSR : ∀ a k, SR a k → 89 ≤ a) (hR2 : RfA M2 cR b L H gf T ks (Inn M1 c)) (hP : JnP (Inn M1 c) H gf T) (hE : FlE M2) : Jn k M2 := by
  have hI := Inn.ref (c := c) hF2 hSR
  refine ⟨c, cR, b, L, H, gf, T, ks, hC1.ref hF2 hSR, ?_, hP.ci hI, hE, hb, hm.fq hF2.q (fun q => by have := hSR _ _ q; omega) (fun i q => by have := hSR _ _ q; omega)⟩
  obtain ⟨a1, a2, a3, a4, a5⟩ := hR2
  exact ⟨⟨a1.1, a1.2.1, a1.2.2.1, a1.2.2.2.1, a1.2.2.2.2.1, a1.2.2.2.2.2.ci hI⟩, a2, a3, a4.ci hI, a5⟩
theorem FewR.grow {m : Nat} (h : FewR M c CI K) (hd : ∀ i, i < c → dR M1 i = dR M i) (hc : c1 ≤ c + m) : FewR M1 c1 CI (K + m) := by
  obtain ⟨E, hN⟩ := h
  refine ⟨fun j => if j < K then E j else dR M1 (c + (j - K)), fun i h1 h2 => ?_⟩
  by_cases q : i < c
  · rw [hd i q]
    rcases hN i h1 q with g | ⟨j, j1, j2⟩
    · exact Or.inl g
    · exact Or.inr ⟨j, by omega, by show (if j < K then E j else _) = _; rw [if_pos j1, j2]⟩
  · exact Or.inr ⟨K + (i - c), by omega, by show (if K + (i - c) < K then _ else dR M1 (c + (K + (i - c) - K))) = _; rw [if_neg (by omega), show c + (K + (i - c) - K) = i by omega]⟩
theorem ClS.gl (h : ClS M c H gf T) (hF : Fq S M M1) (hS : ∀ a k, S a k → ¬ (10 ≤ a ∧ a ≤ 13) ∧ a ≠ 15 ∧ ¬ (25 ≤ a ∧ a ≤ 36)) (hT : TabC M1 c1) (hd : ∀ i, i < c → dC M1 i = dC M i) (hc : c ≤ c1) (hrf : ∀ k, 3 ≤ k → M1.2.2.2.2 53 k = M.2.2.2.2 53 k) (hG : GlC M1 c1 gf') : ClS M1 c1 H gf' T := by
  obtain ⟨hW, hP, -, hH, -, hSl, hr, tr, ht1, ht2, ht3⟩ := h
  refine ⟨hF.Wd hW, fun w hw => (hF.lng (fun q => (hS _ _ q).2.1 rfl)).trans (hP w hw), hT, ?_, hG, fun s hs => ⟨fun q => ?_, fun t q => ?_⟩, hr, tr, ht1, (hrf 3 (by omega)).trans ht2, (hrf 4 (by omega)).trans ht3⟩
  · refine ⟨(hF.int (fun q => (hS _ _ q).1 (by omega))).trans hH.1, hH.2.1, fun j hj => ?_⟩
    obtain ⟨u, u1, u2, u3, u4, u5, u6⟩ := hH.2.2 j hj
    exact ⟨u, by omega, (hF.int (fun q => (hS _ _ q).1 (by omega))).trans u2, (hF.int (fun q => (hS _ _ q).1 (by omega))).trans u3, (hd u u1).trans u4, (hF.int (fun q => (hS _ _ q).1 (by omega))).trans u5, u6⟩
  · exact (hF.int (fun q => (hS _ _ q).2.2 (by omega))).trans ((hSl s hs).1 q)
  · exact ((hSl s hs).2 t q).mv (hF.int (fun q => (hS _ _ q).2.2 (by omega))) (hF.ints (fun k q => (hS _ _ q).2.2 (by omega))) (hF.ints (fun k q => (hS _ _ q).2.2 (by omega))) hd hc
theorem RfS.gl (h : RfS M c H gf T CI K) (hF : Fr S M M1) (hS : ∀ a k, S a k → ¬ (96 ≤ a ∧ a ≤ 98) ∧ ¬ (102 ≤ a ∧ a ≤ 104) ∧ ¬ (a = 89 ∧ k = 15)) (hT : TabR M1 c1) (hd : ∀ i, i < c → dR M1 i = dR M i) (hc : c ≤ c1) {K1 : Nat} (hK : FewR M1 c1 CI K1) (hG : GlR M1 c1 gf') : RfS M1 c1 H gf' T CI K1 := by
  obtain ⟨hW, -, hH, -, hSl, -⟩ := h
  exact ⟨hF.Wd hW, hT, hH.mv hF (fun q => (hS _ _ q).2.2 (by omega)) (fun a k q => (hS _ _ q).1) hd hc, hG, hSl.mv hF (fun a k q => (hS _ _ q).2.1) hd hc, hK⟩
theorem WkG.mv {z : Nat} (h : WkG M c CI z) (hF : Fr S M M1) (hS : ∀ a k, S a k → ¬ (a = 89 ∧ k = 24) ∧ a ≠ 105 ∧ a ≠ 106) (hd : ∀ i, i < c → dR M1 i = dR M i) (hc : c ≤ c1) : WkG M1 c1 CI z := by
  obtain ⟨m, h1, h2, h3⟩ := h
  refine ⟨m, h1, (hF.int (fun q => (hS _ _ q).1 (by omega))).trans h2, fun i hi => ?_⟩
  rw [hF.int (fun q => (hS _ _ q).2.1 rfl), hF.int (fun q => (hS _ _ q).2.2 rfl)]
  exact (h3 i hi).imp id (fun q => q.imp id (fun ⟨v, v1, v2, v3, v4⟩ => ⟨v, by omega, v2, by rw [hd v v1]; exact v3, by rw [hd v v1]; exact v4⟩))
theorem JnP.no (h : JnP CI H gf T) {s : Nat} : JnP CI H gf (ups T s none) := ⟨h.1, ⟨h.2.1.1, fun r u hr hu => by
  by_cases e : r = s
  · rw [e, ups_at] at hu
    cases hu
  · rw [ups_ne _ _ e] at hu
    exact h.2.1.2 r u hr hu⟩, fun r u hr hu => by
  by_cases e : r = s
  · rw [e, ups_at] at hu
    cases hu
  · rw [ups_ne _ _ e] at hu
    exact h.2.2 r u hr hu⟩
theorem j_drop (h : Jn k M) (x : Int32) : Pr2 (Jn (k + 1)) (f_X10_drop 2047 0 x) (f_X11_drop 2047 89 x) M := by
  obtain ⟨c, cR, b, L, H, gf, T, ks, hC, hR, hP, hE, hb, hm⟩ := h
  obtain ⟨a1, a2⟩ := c_drop hC.1.1 2046 x
  rcases slot_cases x with ⟨s, hs, hx⟩ | hn
  · have e1 := a1 s hs hx
    obtain ⟨M1, hM1⟩ : ∃ M1, M1 = wI (wI M (25 + 3 * s) 2 0) (25 + 3 * s) 3 0 := ⟨_, rfl⟩
    have hz : ∀ s t, s < 4 → T s = some t → sz t ≤ 200 := fun s t hs hT => (hP.2.2 s t hs hT).2.1
    rw [← hM1] at e1
    have F1 : Fr (SO (25 + 3 * s)) M M1 := by rw [hM1]; exact (Fr.refl.wI (Or.inl ⟨rfl, Or.inl rfl⟩) _).wI (Or.inl ⟨rfl, Or.inr rfl⟩) _
    have C1 : ClS M1 c H gf (ups T s none) := by rw [hM1]; exact hC.1.dr hs
    have hS1 : ∀ a k, SO (25 + 3 * s) a k → 10 ≤ a ∧ a < 89 := fun a k q => by unfold SO at q; omega
    obtain ⟨hR1, hP1, -⟩ := jn_ref hC hR hP F1.q hS1
    have e2 := (rx_drop C1.1 2045 x).1 s hs hx
    have ev : M1.2.2.1 104 s = M.2.2.1 (25 + 3 * s) 2 := by
      rw [F1.int (by unfold SO; omega), (mm_ref hR.1 hz s hs).2, (mm_cls hC.1 hz s hs).2]
    rw [ev] at e2
    have F2 : Fr (fun a k => (a = 89 ∧ k = 0) ∨ (a = 104 ∧ k = s)) M1 (wI (wI M1 89 0 0) 104 s 0) := (Fr.refl.wI (Or.inl ⟨rfl, rfl⟩) _).wI (Or.inr ⟨rfl, rfl⟩) _
    obtain ⟨T2, d2⟩ := tabR_mv hR1.1.2.1 F2 (by omega) (fun a k q => by omega)
    have R2 : RfS (wI (wI M1 89 0 0) 104 s 0) cR H gf (ups T s none) (Inn M1 c) 11000 := by
      obtain ⟨hW, -, hH, ⟨v, v1, v2, v3⟩, hSl, hF⟩ := hR1.1
      refine ⟨F2.Wd hW, T2, hH.mv F2 (by omega) (fun a k q => by omega) (fun i _ => d2 i) (Nat.le_refl _), ⟨v, v1, (F2.int (by omega)).trans v2, (d2 v).trans v3⟩, fun r hr => ?_, hF.same (fun i _ => d2 i)⟩
      by_cases e : r = s
      · rw [e, ups_at]
        exact ⟨fun _ => by simp [up2_if], fun u q => (by cases q)⟩
      · rw [ups_ne _ _ e]
        obtain ⟨g1, g2⟩ := hSl r hr
        refine ⟨fun q => (F2.int (by omega)).trans (g1 q), fun u q => ?_⟩
        obtain ⟨b1, b2⟩ := g2 u q
        exact ⟨(F2.int (by omega)).trans b1, b2.mv (fun i _ => F2.int (by omega)) (fun i _ => F2.int (by omega)) (fun i _ => d2 i) (Nat.le_refl _)⟩
    exact jn_keep hb hm hC hE e1 F1.q (fun a k q => by unfold SO at q; omega) C1 hR1 hP1.no e2 F2 (fun a k q => by omega) ((F2.int (by omega)).trans hR1.2.2.2.2) R2 (Nat.le_refl _) (hR1.2.2.2.1.mv F2 (fun a k q => by omega) (fun i _ => d2 i) (Nat.le_refl _)) (Nat.le_refl _)
  · exact jn_ans hb hm hC hR hP hE (a2 hn) ((rx_drop hC.1.1 2045 x).2 hn)
theorem hd_of {l : List Nat} (h : chk l 1) {F : Fm} (e : some F = (ev l)[0]?) (hl : l.length ≤ 30) : wdf F = l.length + l.count 12 ∧ wdf F ≤ 60 := by
  have h1 := ev_sum h
  have h2 := (ev_app h).1
  have hc : l.count 12 ≤ l.length := List.count_le_length
  cases hh : ev l with
  | nil => rw [hh] at h2; simp at h2
  | cons f t =>
    rw [hh] at e h1 h2
    have : t = [] := by
      cases t with
      | nil => rfl
      | cons _ _ => simp at h2
    subst this
    have e : some F = some f := e
    cases e
    have h1 : wdf F + 0 = _ := h1
    omega
set_option maxHeartbeats 2000000 in
theorem j_goal (hk : k < 512) (h : Jn k M) (x : Int32) : Pr2 (Jn (k + 1)) (f_X10_goal 2047 0 x) (f_X11_goal 2047 89 x) M := by
  obtain ⟨c, cR, b, L, H, gf, T, ks, hC, hR, hP, hE, hb, hm⟩ := h
  have hL6 := hC.2.1.2.1
  obtain ⟨a1, a2⟩ := c_goal hC.1.1 hC.2.1 hC.1.2.1 hC.1.2.2.1 (by omega) 2042 x
  -- what the reference does from the class's cells
  have ref : ∀ {M1 : Mem} {c1 : Nat}, Fr SGo M M1 → TabC M1 c1 → c ≤ c1 → (∀ i, i < c → dC M1 i = dC M i) → ∃ M0 c0, f_X11_tidies (2002 + 43) 89 (wI M1 89 0 0) = some ((), M0) ∧ Fr STd (wI M1 89 0 0) M0 ∧ RfS M0 c0 H gf T (Inn M1 c1) 8191 ∧ c0 ≤ 12460 ∧ WkG M0 c0 (Inn M1 c1) 121 ∧ RfA M1 cR b L H gf T ks (Inn M1 c1) ∧ JnP (Inn M1 c1) H gf T := by
    intro M1 c1 F1 T1 hc1 d1
    have hI : ∀ f, Inn M c f → Inn M1 c1 f := fun f ⟨v, v1, v2⟩ => ⟨v, by omega, (d1 v v1).trans v2⟩
    have hR1 := hR.cls F1.q (fun a k q => by unfold SGo SGr SRB SRF SF at q; omega) hI
    have hP1 := hP.ci hI
    have hCl1 := Inn_cls T1
    have F0' : Fr (fun a k => a = 89 ∧ k = 0) M1 (wI M1 89 0 0) := Fr.refl.wI ⟨rfl, rfl⟩ _
    have hR0 := hR1.1.w F0' (fun a k q => by omega)
    have hw0 : WkG (wI M1 89 0 0) cR (Inn M1 c1) 121 := hR1.2.2.2.1
    have h80 : (wI M1 89 0 0).2.2.1 89 8 = 0 := (F0'.int (by omega)).trans hR1.2.2.2.2
    obtain ⟨c0, M0, y0, F0, R0, W0, f0, -, -⟩ := tid_any hR0 (hP1.ok hCl1) (by omega) (Nat.le_refl _) hw0 (Or.inl h80) 1842
    exact ⟨M0, c0, y0, F0, ⟨R0.1, R0.2.1, R0.2.2.1, R0.2.2.2.1, R0.2.2.2.2.1, (f0 h80).1⟩, (f0 h80).2.1, W0, hR1, hP1⟩
  have hSG : ∀ a k, SGR a k → (a = 89 ∧ (k = 7 ∨ k = 16 ∨ (27 ≤ k ∧ k ≤ 34))) ∨ (90 ≤ a ∧ a ≤ 94) := fun a k q => by unfold SGR SRR at q; omega
  have fin : ∀ {M1 M0 M2 : Mem} {c1 c0 c2 : Nat} {gf' : Fm} {v : Int32}, f_X10_goal 2047 0 x M = some (v, M1) → Fr SGo M M1 → TabC M1 c1 → c ≤ c1 → 1240 * c1 ≤ 12020 * (k + 1) + 11160 → (∀ i, i < c → dC M1 i = dC M i) → M1.2.2.1 0 1 = nI 0 → GlC M1 c1 gf' → OkF (Inn M1 c1) gf' ∧ wdf gf' ≤ 60 ∧ 2 * lea gf' + nt gf' ≤ 31 → RfA M1 cR b L H gf T ks (Inn M1 c1) → JnP (Inn M1 c1) H gf T → Fr STd (wI M1 89 0 0) M0 → RfS M0 c0 H gf T (Inn M1 c1) 8191 → WkG M0 c0 (Inn M1 c1) 121 → f_X11_goal 2047 89 x M1 = some (v, M2) → Fr SGR M0 M2 → M2.2.2.1 89 27 = nI 0 → TabR M2 c2 → c0 ≤ c2 → c2 ≤ c0 + 62 → (∀ i, i < c0 → dR M2 i = dR M0 i) → GlR M2 c2 gf' → M1.2.2.1 14 17 = M2.2.2.1 89 32 → M1.2.2.1 14 18 = M2.2.2.1 89 33 → Pr2 (Jn (k + 1)) (f_X10_goal 2047 0 x) (f_X11_goal 2047 89 x) M := by
    intro M1 M0 M2 c1 c0 c2 gf' v e1 F1 T1 hc1 hb1 d1 g01 hG1 hO1 hR1 hP1 F0 R0 W0 e2 F2 g27 T2 hc2 hc3 d2 hG2 hE1 hE2
    have hSGo : ∀ a k, SGo a k → a ≤ 9 ∨ a = 14 ∨ a = 20 := fun a k q => by unfold SGo SGr SRB SRF SF at q; omega
    have hSG0 : ∀ a k, SGo a k → a = 0 → k = 1 ∨ k = 16 ∨ k = 17 := fun a k q => by unfold SGo SGr SRB SRF SF at q; omega
    have C1 : ClS M1 c1 H gf' T := hC.1.gl F1.q (fun a k q => by have := hSGo _ _ q; omega) T1 d1 hc1 (fun k _ => by rw [F1.2.2.1]) hG1
    have hC1 : ClA M1 c1 b 0 H gf' T ks := ⟨C1, ⟨g01, by omega, fun i hi => by omega⟩, ⟨(F1.int (fun q => by have := hSG0 _ _ q rfl; omega)).trans hC.2.2.1, hC.2.2.2.1, fun j y hj => (F1.int (fun q => by have := hSGo _ _ q; omega)).trans (hC.2.2.2.2 j y hj)⟩⟩
    have F02 : Fr (fun a k => (a = 89 ∧ k = 0) ∨ STd a k ∨ SGR a k) M1 M2 := ((Fr.refl.wI (a := 89) (k := 0) (Or.inl ⟨rfl, rfl⟩) 0).trans (F0.mono (fun a k q => Or.inr (Or.inl q)))).trans (F2.mono (fun a k q => Or.inr (Or.inr q)))
    have hS02 : ∀ a k, ((a = 89 ∧ k = 0) ∨ STd a k ∨ SGR a k) → 89 ≤ a ∧ ¬ (a = 89 ∧ (k = 8 ∨ k = 47)) ∧ a ≠ 109 ∧ a ≠ 117 := fun a k q => by
      rcases q with q | q | q
      · omega
      · unfold STd at q; omega
      · have := hSG _ _ q; omega
    have R2 : RfS M2 c2 H gf' T (Inn M1 c1) (8191 + 62) := R0.gl F2 (fun a k q => by have := hSG _ _ q; omega) T2 d2 hc2 (R0.2.2.2.2.2.grow d2 hc3) hG2
    refine ⟨v, M1, M2, e1, fO_89 C1.1, e2, Jn.mk2 (cR := c2) (by omega) (hm.fq F1.q (by unfold SGo SGr SRB SRF SF; omega) (by unfold SGo SGr SRB SRF SF; omega)).up hC1 F02 (fun a k q => (hS02 _ _ q).1) ⟨⟨R2.1, R2.2.1, R2.2.2.1, R2.2.2.2.1, R2.2.2.2.2.1, R2.2.2.2.2.2.mono (by omega)⟩, ⟨g27, by omega, fun i hi => by omega⟩, ⟨(F02.int (fun q => by have := hS02 _ _ q; omega)).trans hR1.2.2.1.1, hR1.2.2.1.2.1, fun j y hj => (F02.int (fun q => by have := hS02 _ _ q; omega)).trans (hR1.2.2.1.2.2 j y hj)⟩, W0.mv F2 (fun a k q => by have := hSG _ _ q; omega) d2 hc2, (F02.int (fun q => by have := hS02 _ _ q; omega)).trans hR1.2.2.2.2⟩ ⟨hP1.1, ⟨hO1, hP1.2.1.2⟩, hP1.2.2⟩ ⟨?_, ?_⟩⟩
    · rw [F02.int (fun q => by have := (hS02 _ _ q).1; omega)]; exact hE1
    · rw [F02.int (fun q => by have := (hS02 _ _ q).1; omega)]; exact hE2
  by_cases hx : ∃ n, n ≤ L ∧ x = nI n
  · obtain ⟨n, hn, hxn⟩ := hx
    obtain ⟨a3, a4⟩ := a2 n hn hxn
    cases hg : gls b n with
    | inl e =>
      obtain ⟨c1, M1, e1, F1, g01, g16, g17, f17, f18, hc1, hc2, T1, d1⟩ := a3 e.1 e.2 hg
      obtain ⟨M0, c0, y0, F0, R0, hc0, W0, hR1, hP1⟩ := ref F1 T1 hc1 d1
      obtain ⟨-, q2⟩ := rx_goal (F1.Wd hC.1.1) hR1.2.1 2002 y0 F0 R0.2.1 (by omega) x
      obtain ⟨c2, M2, e2, F2, g27, h16, f32, f33, l1, l2, T2, d2⟩ := (q2 n hn hxn).1 e.1 e.2 hg
      obtain ⟨v, v1, v2, v3, v4⟩ := hC.1.2.2.2.2.1
      obtain ⟨w, w1, w2, w3⟩ := R0.2.2.2.1
      exact fin e1 F1 T1 hc1 (by omega) d1 g01 ⟨v, by omega, g16.trans v2, (d1 v v1).trans v3, g17.trans v4⟩ hP1.2.1.1 hR1 hP1 F0 R0 W0 e2 F2 g27 T2 l1 l2 d2 ⟨w, by omega, h16.trans w2, (d2 w w1).trans w3⟩ (f17.trans f32.symm) (f18.trans f33.symm)
    | inr l =>
      obtain ⟨f, c1, M1, e1, F1, g01, g16, g17, f17, f18, hf, hc1, hc2, T1, d1, hev, hlen, hck⟩ := a4 l hg
      obtain ⟨M0, c0, y0, F0, R0, hc0, W0, hR1, hP1⟩ := ref F1 T1 hc1 d1
      obtain ⟨-, q2⟩ := rx_goal (F1.Wd hC.1.1) hR1.2.1 2002 y0 F0 R0.2.1 (by omega) x
      obtain ⟨f', c2, M2, e2, F2, g27, h16, f32, f33, hf', l1, l2, T2, d2, hev2⟩ := (q2 n hn hxn).2 l hg
      obtain ⟨w1, w2⟩ := hd_of hck hev hlen
      have hsame : dR M2 f' = dC M1 f := Option.some.inj (hev2.trans hev.symm)
      exact fin e1 F1 T1 hc1 (by omega) d1 g01 ⟨f, hf, g16, rfl, by rw [g17, w1]⟩ ⟨⟨⟨f, hf, rfl⟩, by have := dpf_wdf (dC M1 f); omega⟩, w2, told_tw hck hev hlen⟩ hR1 hP1 F0 R0 W0 e2 F2 g27 T2 l1 l2 d2 ⟨f', hf', h16, hsame⟩ (f17.trans f32.symm) (f18.trans f33.symm)
  · have hn : ∀ n, n ≤ L → x ≠ nI n := fun n hn e => hx ⟨n, hn, e⟩
    obtain ⟨M0, c0, y0, F0, R0, hc0, W0, hR1, hP1⟩ := ref Fr.refl hC.1.2.2.1 (Nat.le_refl _) (fun _ _ => rfl)
    exact jn_ans hb hm hC hR hP hE (a1 hn) ((rx_goal hC.1.1 hR1.2.1 2002 y0 F0 R0.2.1 (by omega) x).1 hn)
end JG
