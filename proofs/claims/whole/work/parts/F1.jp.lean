/-! THE INVARIANT over calls: proof -/
section JP
variable {M M1 M2 : Mem} {c c1 cR cr : Nat} {b : Nat → Nat} {L : Nat} {H : List (Nat × Fm)} {gf : Fm} {T : Nat → Option Tm} {ks : List Nat} {K k : Nat} {CI : Fm → Prop} {S : Nat → Nat → Prop}
theorem WkO.g (h : WkO M c) : WkG M c CI 121 := by
  obtain ⟨m, h1, h2, h3⟩ := h
  refine ⟨m, by omega, h2, fun i hi => (h3 i hi).imp id (fun q => q.imp id (fun ⟨v, v1, v2, v3⟩ => ⟨v, v1, v2, ?_, Or.inr ⟨by omega, v3⟩⟩))⟩
  have := dpf_wdf (dR M v)
  omega
/-- the state behind a call that fills a slot, and the table may have grown -/
theorem ClS.ms (h : ClS M c H gf T) {s : Nat} (hs : s < 4) {t : Tm} (hF : Fq (fun a k => S a k ∨ SO (25 + 3 * s) a k) M M1) (hS : ∀ a k, S a k → ¬ (10 ≤ a ∧ a ≤ 13) ∧ a ≠ 15 ∧ ¬ (25 ≤ a ∧ a ≤ 36) ∧ ¬ (a = 0 ∧ (k = 16 ∨ k = 17))) (hT : TabC M1 c1) (hd : ∀ i, i < c → dC M1 i = dC M i) (hc : c ≤ c1) (hrf : ∀ k, 3 ≤ k → M1.2.2.2.2 53 k = M.2.2.2.2 53 k) (hR : RowC M1 (25 + 3 * s) c1 (rws t)) : ClS M1 c1 H gf (ups T s (some t)) := by
  obtain ⟨hW, hP, -, hH, ⟨v, v1, v2, v3, v4⟩, hSl, hr, tr, ht1, ht2, ht3⟩ := h
  have out : ∀ {a k : Nat}, (a < 25 ∨ 36 < a) → ¬ (a = 0 ∧ k ≠ 16 ∧ k ≠ 17) → ((10 ≤ a ∧ a ≤ 13) ∨ a = 15 ∨ a = 0) → ¬ (S a k ∨ SO (25 + 3 * s) a k) := fun h1 h2 h3 q => by
    rcases q with q | q
    · have := hS _ _ q; omega
    · unfold SO at q; omega
  refine ⟨hF.Wd hW, fun w hw => (hF.lng (out (by omega) (by omega) (by omega))).trans (hP w hw), hT, ?_, ⟨v, by omega, (hF.int (out (by omega) (by omega) (by omega))).trans v2, (hd v v1).trans v3, (hF.int (out (by omega) (by omega) (by omega))).trans v4⟩, fun r hr => ?_, hr, tr, ht1, (hrf 3 (by omega)).trans ht2, (hrf 4 (by omega)).trans ht3⟩
  · refine ⟨(hF.int (out (by omega) (by omega) (by omega))).trans hH.1, hH.2.1, fun j hj => ?_⟩
    obtain ⟨u, u1, u2, u3, u4, u5, u6⟩ := hH.2.2 j hj
    exact ⟨u, by omega, (hF.int (out (by omega) (by omega) (by omega))).trans u2, (hF.int (out (by omega) (by omega) (by omega))).trans u3, (hd u u1).trans u4, (hF.int (out (by omega) (by omega) (by omega))).trans u5, u6⟩
  · by_cases e : r = s
    · rw [e, ups_at]
      exact ⟨fun q => (by cases q), fun u q => by cases q; exact hR⟩
    · rw [ups_ne _ _ e]
      have sep : ∀ {a k : Nat}, (a = 25 + 3 * r ∨ a = 25 + 3 * r + 1 ∨ a = 25 + 3 * r + 2) → ¬ (S a k ∨ SO (25 + 3 * s) a k) := fun h1 q => by
        rcases q with q | q
        · have := hS _ _ q; omega
        · unfold SO at q; omega
      exact ⟨fun q => (hF.int (sep (by omega))).trans ((hSl r hr).1 q), fun u q => ((hSl r hr).2 u q).mv (hF.int (sep (by omega))) (hF.ints (fun k => sep (by omega))) (hF.ints (fun k => sep (by omega))) hd hc⟩
theorem RfS.ms (h : RfS M c H gf T CI K) (hz : ∀ r u, r < 4 → T r = some u → sz u ≤ 200) {s m : Nat} (hs : s < 4) (hm : m ≤ 200) {t : Tm} (hF : Fr (fun a k => S a k ∨ SSt s m a k) M M1) (hS : ∀ a k, S a k → ¬ (96 ≤ a ∧ a ≤ 98) ∧ ¬ (102 ≤ a ∧ a ≤ 104) ∧ ¬ (a = 89 ∧ (k = 15 ∨ k = 16))) (hT : TabR M1 c1) (hd : ∀ i, i < c → dR M1 i = dR M i) (hc : c ≤ c1) {K1 : Nat} (hK : FewR M1 c1 CI K1) (h4 : M1.2.2.1 104 s = nI (sz t)) (hR : RowR M1 102 103 (200 * s) c1 (rws t)) : RfS M1 c1 H gf (ups T s (some t)) CI K1 := by
  obtain ⟨hW, -, hH, ⟨v, v1, v2, v3⟩, hSl, -⟩ := h
  refine ⟨hF.Wd hW, hT, hH.mv hF (fun q => by rcases q with q | q; have := hS _ _ q; omega; unfold SSt at q; omega) (fun a k q => by rcases q with q | q; have := hS _ _ q; omega; unfold SSt at q; omega) hd hc, ⟨v, by omega, (hF.int (fun q => by rcases q with q | q; have := hS _ _ q; omega; unfold SSt at q; omega)).trans v2, (hd v v1).trans v3⟩, fun r hr => ?_, hK⟩
  by_cases e : r = s
  · rw [e, ups_at]
    exact ⟨fun q => (by cases q), fun u q => by cases q; exact ⟨h4, hR⟩⟩
  · rw [ups_ne _ _ e]
    obtain ⟨b1, b2⟩ := hSl r hr
    refine ⟨fun q => (hF.int (fun q => by rcases q with q | q; have := hS _ _ q; omega; unfold SSt at q; omega)).trans (b1 q), fun u q => ?_⟩
    obtain ⟨a1, a2⟩ := b2 u q
    have hu2 := hz r u hr q
    exact ⟨(hF.int (fun q => by rcases q with q | q; have := hS _ _ q; omega; unfold SSt at q; omega)).trans a1, a2.mv (fun i hi => by rw [rws_len] at hi; exact hF.int (fun q => by rcases q with q | q; have := hS _ _ q; omega; unfold SSt at q; omega)) (fun i hi => by rw [rws_len] at hi; exact hF.int (fun q => by rcases q with q | q; have := hS _ _ q; omega; unfold SSt at q; omega)) hd hc⟩
set_option maxHeartbeats 4000000 in
theorem j_proof (hk : k < 512) (h : Jn k M) (x1 x2 : Int32) : Pr2 (Jn (k + 1)) (f_X10_proof 2047 0 x1 x2) (f_X11_proof 2047 89 x1 x2) M := by
  obtain ⟨c, cR, b, L, H, gf, T, ks, hC, hR, hP, hE, hb, hm⟩ := h
  have hL6 := hC.2.1.2.1
  have h6 := hC.1.2.2.2.1.2.1
  have hz : ∀ s t, s < 4 → T s = some t → sz t ≤ 200 := fun s t hs hT => (hP.2.2 s t hs hT).2.1
  obtain ⟨a1, a2⟩ := c_proof hC.1.1 hC.2.1 hC.1.2.1 hC.1.2.2.1 hC.1.2.2.2.1 (by omega) 2041 x1 x2
  have ref : ∀ {M1 : Mem} {c1 : Nat} {S : Nat → Nat → Prop}, Fq S M M1 → (∀ a k, S a k → a < 89) → TabC M1 c1 → c ≤ c1 → (∀ i, i < c → dC M1 i = dC M i) → ∃ M0 c0, f_X11_tidies (1802 + 243) 89 (wI (wI M1 89 0 0) 89 24 0) = some ((), M0) ∧ Fr STd (wI (wI M1 89 0 0) 89 24 0) M0 ∧ RfS M0 c0 H gf T (Inn M1 c1) 8191 ∧ c0 ≤ 8191 ∧ RfA M1 cR b L H gf T ks (Inn M1 c1) ∧ JnP (Inn M1 c1) H gf T := by
    intro M1 c1 S F1 hS1 T1 hc1 d1
    have hI : ∀ f, Inn M c f → Inn M1 c1 f := fun f ⟨v, v1, v2⟩ => ⟨v, by omega, (d1 v v1).trans v2⟩
    have hR1 := hR.cls F1 hS1 hI
    have hP1 := hP.ci hI
    have F0' : Fr (fun a k => a = 89 ∧ (k = 0 ∨ k = 24)) M1 (wI (wI M1 89 0 0) 89 24 0) := (Fr.refl.wI ⟨rfl, by omega⟩ _).wI ⟨rfl, by omega⟩ _
    have hR0 := hR1.1.w F0' (fun a k q => by omega)
    have h80 : (wI (wI M1 89 0 0) 89 24 0).2.2.1 89 8 = 0 := (F0'.int (by omega)).trans hR1.2.2.2.2
    obtain ⟨c0, M0, y0, F0, R0, -, f0, -, -⟩ := tid_any hR0 (hP1.ok (Inn_cls T1)) (by omega) (z := 0) (by omega) ⟨0, by omega, by simp [up2_if]; rfl, fun i hi => by omega⟩ (Or.inl h80) 1842
    exact ⟨M0, c0, y0, F0, ⟨R0.1, R0.2.1, R0.2.2.1, R0.2.2.2.1, R0.2.2.2.2.1, (f0 h80).1⟩, (f0 h80).2.2 rfl, hR1, hP1⟩
  have hSp : ∀ a k, SPc a k → (a ≤ 9 ∧ (a = 0 → k = 1) ∧ ¬ (a = 2 ∧ k = 8) ∧ a ≠ 8) ∨ a = 14 ∨ (20 ≤ a ∧ a ≤ 23) ∨ (37 ≤ a ∧ a ≤ 49) := fun a k q => by unfold SPc SRx SRt SF SO SAg at q; omega
  have hSf : ∀ a k, SPf a k → (a = 89 ∧ (k = 7 ∨ k = 24 ∨ (27 ≤ k ∧ k ≤ 34) ∨ k = 39 ∨ k = 43)) ∨ (90 ≤ a ∧ a ≤ 94) ∨ a = 105 ∨ a = 106 ∨ (110 ≤ a ∧ a ≤ 115) := fun a k q => by unfold SPf SR at q; omega
  -- the end, whichever it is
  have fin : ∀ {M1 M0 M2 : Mem} {c1 c0 c2 n : Nat} {T' : Nat → Option Tm} {v : Int32} {SC S2 : Nat → Nat → Prop}, f_X10_proof 2047 0 x1 x2 M = some (v, M1) → Fq SC M M1 → (∀ a k, SC a k → a < 89 ∧ a ≠ 88 ∧ ¬ (a = 0 ∧ k = 15) ∧ ¬ (a = 2 ∧ k = 8) ∧ a ≠ 8) → n ≤ L → 2 * c1 ≤ 2 * c + n + 1 → M1.2.2.1 0 1 = nI 0 → ClS M1 c1 H gf T' → RfA M1 cR b L H gf T ks (Inn M1 c1) → JnP (Inn M1 c1) H gf T' → Fr STd (wI (wI M1 89 0 0) 89 24 0) M0 → f_X11_proof 2047 89 x1 x2 M1 = some (v, M2) → Fr S2 M0 M2 → (∀ a k, S2 a k → SPf a k ∨ (102 ≤ a ∧ a ≤ 104)) → M2.2.2.1 89 27 = nI 0 → RfS M2 c2 H gf T' (Inn M1 c1) 8911 → WkO M2 c2 → M1.2.2.1 14 17 = M2.2.2.1 89 32 → M1.2.2.1 14 18 = M2.2.2.1 89 33 → Pr2 (Jn (k + 1)) (f_X10_proof 2047 0 x1 x2) (f_X11_proof 2047 89 x1 x2) M := by
    intro M1 M0 M2 c1 c0 c2 n T' v SC S2 e1 F1 hSC hn hc2 g01 C1 hR1 hP' F0 e2 F2 hS2 g27 R2 W2 hE1 hE2
    have hC1 : ClA M1 c1 b 0 H gf T' ks := ⟨C1, ⟨g01, by omega, fun i hi => by omega⟩, ⟨(F1.int (fun q => by have := hSC _ _ q; omega)).trans hC.2.2.1, hC.2.2.2.1, fun j y hj => (F1.int (fun q => by have := hSC _ _ q; omega)).trans (hC.2.2.2.2 j y hj)⟩⟩
    have F02 : Fr (fun a k => (a = 89 ∧ (k = 0 ∨ k = 24)) ∨ STd a k ∨ S2 a k) M1 M2 := (((Fr.refl.wI (a := 89) (k := 0) (Or.inl ⟨rfl, by omega⟩) 0).wI (a := 89) (k := 24) (Or.inl ⟨rfl, by omega⟩) 0).trans (F0.mono (fun a k q => Or.inr (Or.inl q)))).trans (F2.mono (fun a k q => Or.inr (Or.inr q)))
    have hS02 : ∀ a k, ((a = 89 ∧ (k = 0 ∨ k = 24)) ∨ STd a k ∨ S2 a k) → 89 ≤ a ∧ ¬ (a = 89 ∧ (k = 8 ∨ k = 47)) ∧ a ≠ 109 ∧ a ≠ 117 := fun a k q => by
      rcases q with q | q | q
      · omega
      · unfold STd at q; omega
      · rcases hS2 _ _ q with q | q
        · have := hSf _ _ q; omega
        · omega
    refine ⟨v, M1, M2, e1, fO_89 C1.1, e2, Jn.mk2 (cR := c2) (by omega) (hm.fq F1 (fun q => by have := hSC _ _ q; omega) (fun i q => by have := hSC _ _ q; omega)).up hC1 F02 (fun a k q => (hS02 _ _ q).1) ⟨⟨R2.1, R2.2.1, R2.2.2.1, R2.2.2.2.1, R2.2.2.2.2.1, R2.2.2.2.2.2.mono (by omega)⟩, ⟨g27, by omega, fun i hi => by omega⟩, ⟨(F02.int (fun q => by have := hS02 _ _ q; omega)).trans hR1.2.2.1.1, hR1.2.2.1.2.1, fun j y hj => (F02.int (fun q => by have := hS02 _ _ q; omega)).trans (hR1.2.2.1.2.2 j y hj)⟩, W2.g, (F02.int (fun q => by have := hS02 _ _ q; omega)).trans hR1.2.2.2.2⟩ hP' ⟨?_, ?_⟩⟩
    · rw [F02.int (fun q => by have := (hS02 _ _ q).1; omega)]; exact hE1
    · rw [F02.int (fun q => by have := (hS02 _ _ q).1; omega)]; exact hE2
  obtain ⟨M0, c0, y0, F0, R0, hc0, hR1, hP1⟩ := ref (S := fun _ _ => False) Fq.refl (fun a k q => q.elim) hC.1.2.2.1 (Nat.le_refl _) (fun _ _ => rfl)
  have cp : ∀ {M0 : Mem} {c0 : Nat} {CI : Fm → Prop}, RfS M0 c0 H gf T CI 8191 → 0 < c0 := fun R => by
    obtain ⟨v, v1, -⟩ := R.2.2.2.1
    omega
  obtain ⟨p1, p2⟩ := rx_proof hC.1.1 hR1.2.1 1802 y0 F0 R0.2.1 R0.2.2.1 (cp R0) (by omega) x1 x2
  rcases slot_cases x1 with ⟨s, hs, hx1⟩ | hn1
  · obtain ⟨a3, a4⟩ := a2 s hs hx1
    by_cases hx : ∃ n, n ≤ L ∧ x2 = nI n
    · obtain ⟨n, hn, hxn⟩ := hx
      obtain ⟨a5, a6⟩ := a4 n hn hxn
      clear p1 p2
      cases hpf : pfX b n H with
      | inl e =>
        obtain ⟨M1, c1, e1, F1, g01, hfl, ⟨T1, l1, l2, d1⟩, rf1⟩ := a5 e hpf
        obtain ⟨M0, c0, y0, F0, R0, hc0, hR1, hP1⟩ := ref F1 (fun a k q => by have := hSp _ _ q; omega) T1 l1 d1
        obtain ⟨-, q2⟩ := rx_proof (F1.Wd hC.1.1) hR1.2.1 1802 y0 F0 R0.2.1 R0.2.2.1 (cp R0) (by omega) x1 x2
        obtain ⟨M2, c2, e2, F2, g27, g32, g33, T2, k1, k2, d2, w2⟩ := ((q2 s hs hx1).2 n hn hxn).1 e hpf
        have C1 : ClS M1 c1 H gf T := hC.1.mq F1 (fun a k q => by have := hSp _ _ q; omega) T1 d1 l1 (fun k _ => rf1 k)
        have R2 : RfS M2 c2 H gf T (Inn M1 c1) 8911 := by
          obtain ⟨v, v1, v2, v3⟩ := R0.2.2.2.1
          exact R0.gl F2 (fun a k q => by have := hSf _ _ q; omega) T2 d2 k1 ((R0.2.2.2.2.2.grow (m := 720) d2 (by omega)).mono (by omega)) ⟨v, by omega, (F2.int (fun q => by have := hSf _ _ q; omega)).trans v2, (d2 v v1).trans v3⟩
        exact fin (c0 := c0) e1 F1 (fun a k q => by have := hSp _ _ q; omega) hn l2 g01 C1 hR1 hP1 F0 e2 F2 (fun a k q => Or.inl q) g27 R2 w2 (hfl.1.trans g32.symm) (hfl.2.trans g33.symm)
      | inr r =>
        obtain ⟨M1, c1, e1, F1, g01, f17, f18, ⟨T1, l1, l2, d1⟩, Rw, -, hwt, rf1⟩ := a6 r hpf
        have hS1 : ∀ a k, (SPc a k ∨ SO (25 + 3 * s) a k) → (a ≤ 9 ∧ (a = 0 → k = 1) ∧ ¬ (a = 2 ∧ k = 8) ∧ a ≠ 8) ∨ a = 14 ∨ (20 ≤ a ∧ a ≤ 49) := fun a k q => by
          rcases q with q | q
          · have := hSp _ _ q; omega
          · unfold SO at q; omega
        obtain ⟨M0, c0, y0, F0, R0, hc0, hR1, hP1⟩ := ref F1 (fun a k q => by have := hS1 _ _ q; omega) T1 l1 d1
        obtain ⟨-, q2⟩ := rx_proof (F1.Wd hC.1.1) hR1.2.1 1802 y0 F0 R0.2.1 R0.2.2.1 (cp R0) (by omega) x1 x2
        obtain ⟨M2, c2, e2, F2, g27, g32, g33, ⟨T2, k1, k2, d2, w2⟩, g104, Rr⟩ := ((q2 s hs hx1).2 n hn hxn).2 r hpf
        obtain ⟨o1, -, -, o4, -⟩ := pfX_ok h6 hpf
        have C1 : ClS M1 c1 H gf (ups T s (some r.1)) := hC.1.ms hs F1 (fun a k q => by have := hSp _ _ q; omega) T1 d1 l1 (fun k _ => rf1 k) Rw
        have R2 : RfS M2 c2 H gf (ups T s (some r.1)) (Inn M1 c1) 8911 := R0.ms hz hs (by omega) F2 (fun a k q => by have := hSf _ _ q; omega) T2 d2 k1 ((R0.2.2.2.2.2.grow (m := 720) d2 (by omega)).mono (by omega)) g104 Rr
        have hP2 : JnP (Inn M1 c1) H gf (ups T s (some r.1)) := hP1.set o1 (by omega) (pfX_dp h6 (fun y hy => (hP.1 y hy).2.1) hpf hwt) (pfX_B (by omega) h6 T1 (hP1.hb T1) hpf (fun _ q => q) (Inn_cls T1) (pfX_dp h6 (fun y hy => (hP.1 y hy).2.1) hpf hwt))
        exact fin (c0 := c0) e1 F1 (fun a k q => by have := hS1 _ _ q; omega) hn l2 g01 C1 hR1 hP2 F0 e2 F2 (fun a k q => by rcases q with q | q; exact Or.inl q; unfold SSt at q; exact Or.inr (by omega)) g27 R2 w2 (f17.trans g32.symm) (f18.trans g33.symm)
    · have hn : ∀ n, n ≤ L → x2 ≠ nI n := fun n hn e => hx ⟨n, hn, e⟩
      exact jn_ans hb hm hC hR hP hE (a3 hn) ((p2 s hs hx1).1 hn)
  · exact jn_ans hb hm hC hR hP hE (a1 hn1) (p1 hn1)
end JP
