/-! THE INVARIANT over calls: feed, hypotheses -/
section JH
variable {M M1 M2 : Mem} {c c1 cR cr : Nat} {b : Nat → Nat} {L : Nat} {H : List (Nat × Fm)} {gf : Fm} {T : Nat → Option Tm} {ks : List Nat} {K k : Nat} {CI : Fm → Prop} {S : Nat → Nat → Prop}
theorem j_feed (h : Jn k M) (v1 v2 v3 v4 v5_ : Int32) : Pr2 (Jn (k + 1)) (f_X10_feed 2047 0 v1 v2 v3 v4 v5_) (f_X11_feed 2047 89 v1 v2 v3 v4 v5_) M := by
  obtain ⟨c, cR, b, L, H, gf, T, ks, hC, hR, hP, hE, hb, hm⟩ := h
  obtain ⟨a1, a2⟩ := c_feed hC.1.1 hC.2.1 2046 v1 v2 v3 v4 v5_
  obtain ⟨r1, -⟩ := r_feed hC.1.1 hR.2.1 2047 v1 v2 v3 v4 v5_
  by_cases h6 : 600 < L + 20
  · exact jn_ans hb hm hC hR hP hE (a1 h6) (r1 h6)
  · obtain ⟨M1, e1, F1, T1⟩ := a2 (by omega)
    have hI : ∀ f, Inn M c f → Inn M1 c f := fun f ⟨v, h1, h2⟩ => ⟨v, h1, by
      rw [dC_fq F1.q (fun k q => by omega) (fun k q => by omega) (fun k q => by omega)]
      exact h2⟩
    have hR1 := hR.cls F1.q (fun a k q => by omega) hI
    have hP1 := hP.ci hI
    obtain ⟨-, r2⟩ := r_feed (F1.Wd hC.1.1) hR1.2.1 2047 v1 v2 v3 v4 v5_
    obtain ⟨M2, e2, F2, T2⟩ := r2 (by omega)
    obtain ⟨t1, t2⟩ := hC.1.2.2.1.fr F1 (by omega) (by omega) (by omega) (by omega) (by omega) (by omega) (by omega)
    have C1 : ClS M1 c H gf T := hC.1.mq F1.q (fun a k q => by omega) t1 (fun i _ => t2 i) (Nat.le_refl _) (fun k _ => by rw [F1.2.2.1])
    have hC1 : ClA M1 c (fdB b L (v5 v1 v2 v3 v4 v5_)) (L + 20) H gf T ks := ⟨C1, T1, ⟨(F1.int (by omega)).trans hC.2.2.1, hC.2.2.2.1, fun j y hj => (F1.int (by omega)).trans (hC.2.2.2.2 j y hj)⟩⟩
    have R2 := hR1.1.w F2 (fun a k q => by omega)
    obtain ⟨-, d2⟩ := tabR_mv hR1.1.2.1 F2 (by omega) (fun a k q => by omega)
    refine ⟨_, M1, M2, e1, fO_89 C1.1, e2, Jn.mk2 (cR := cR) (by omega) (hm.fq F1.q (by omega) (by omega)).up hC1 F2 (fun a k q => by omega) ⟨R2, T2, ⟨(F2.int (by omega)).trans hR1.2.2.1.1, hR1.2.2.1.2.1, fun j y hj => (F2.int (by omega)).trans (hR1.2.2.1.2.2 j y hj)⟩, hR1.2.2.2.1.mv F2 (fun a k q => by omega) (fun i _ => d2 i) (Nat.le_refl _), (F2.int (by omega)).trans hR1.2.2.2.2⟩ hP1 ⟨?_, ?_⟩⟩
    · rw [F2.int (by omega), F2.int (by omega), F1.int (by omega), F1.int (by omega)]; exact hE.1
    · rw [F2.int (by omega), F2.int (by omega), F1.int (by omega), F1.int (by omega)]; exact hE.2
set_option maxHeartbeats 4000000 in
theorem j_hypotheses (hk : k < 512) (h : Jn k M) (x : Int32) : Pr2 (Jn (k + 1)) (f_X10_hypotheses 2047 0 x) (f_X11_hypotheses 2047 89 x) M := by
  obtain ⟨c, cR, b, L, H, gf, T, ks, hC, hR, hP, hE, hb, hm⟩ := h
  have hL6 := hC.2.1.2.1
  obtain ⟨a1, a2⟩ := c_hypotheses hC.1.1 hC.2.1 hC.1.2.1 hC.1.2.2.1 (by omega) 2040 x
  have hSd : ∀ a k, SHd a k → (a = 0 ∧ k = 1) ∨ (2 ≤ a ∧ a ≤ 9) ∨ (10 ≤ a ∧ a ≤ 13) ∨ a = 14 ∨ (16 ≤ a ∧ a ≤ 20) ∨ (25 ≤ a ∧ a ≤ 36) := fun a k q => by unfold SHd SHc SHr SHy SRB SRF SF at q; omega
  have hSc : ∀ a k, SHc a k → (a = 0 ∧ k = 1) ∨ (2 ≤ a ∧ a ≤ 9) ∨ a = 14 ∨ (16 ≤ a ∧ a ≤ 20) := fun a k q => by unfold SHc SHr SHy SRB SRF SF at q; omega
  have ref : ∀ {M1 : Mem} {c1 : Nat}, Fr SHd M M1 → TabC M1 c1 → c ≤ c1 → (∀ i, i < c → dC M1 i = dC M i) → ∃ M0 c0, f_X11_tidies (2000 + 45) 89 (wI M1 89 0 0) = some ((), M0) ∧ Fr STd (wI M1 89 0 0) M0 ∧ RfS M0 c0 H gf T (Inn M1 c1) 8191 ∧ c0 ≤ 12460 ∧ WkG M0 c0 (Inn M1 c1) 121 ∧ RfA M1 cR b L H gf T ks (Inn M1 c1) ∧ JnP (Inn M1 c1) H gf T := by
    intro M1 c1 F1 T1 hc1 d1
    have hI : ∀ f, Inn M c f → Inn M1 c1 f := fun f ⟨v, v1, v2⟩ => ⟨v, by omega, (d1 v v1).trans v2⟩
    have hR1 := hR.cls F1.q (fun a k q => by have := hSd _ _ q; omega) hI
    have hP1 := hP.ci hI
    have hCl1 := Inn_cls T1
    have F0' : Fr (fun a k => a = 89 ∧ k = 0) M1 (wI M1 89 0 0) := Fr.refl.wI ⟨rfl, rfl⟩ _
    have hR0 := hR1.1.w F0' (fun a k q => by omega)
    have hw0 : WkG (wI M1 89 0 0) cR (Inn M1 c1) 121 := hR1.2.2.2.1
    have h80 : (wI M1 89 0 0).2.2.1 89 8 = 0 := (F0'.int (by omega)).trans hR1.2.2.2.2
    obtain ⟨c0, M0, y0, F0, R0, W0, f0, -, -⟩ := tid_any hR0 (hP1.ok hCl1) (by omega) (Nat.le_refl _) hw0 (Or.inl h80) 1842
    exact ⟨M0, c0, y0, F0, ⟨R0.1, R0.2.1, R0.2.2.1, R0.2.2.2.1, R0.2.2.2.2.1, (f0 h80).1⟩, (f0 h80).2.1, W0, hR1, hP1⟩
  have hSj : ∀ a k, SRj a k → (a = 89 ∧ (k = 7 ∨ k = 15 ∨ (27 ≤ k ∧ k ≤ 35))) ∨ (90 ≤ a ∧ a ≤ 94) ∨ (96 ≤ a ∧ a ≤ 101) ∨ a = 104 := fun a k q => by unfold SRj SRk SRi SRh SRR at q; omega
  have hSk : ∀ a k, SRk a k → (a = 89 ∧ (k = 7 ∨ k = 15 ∨ (27 ≤ k ∧ k ≤ 35))) ∨ (90 ≤ a ∧ a ≤ 94) ∨ (99 ≤ a ∧ a ≤ 101) := fun a k q => by unfold SRk SRi SRh SRR at q; omega
  have fin : ∀ {M1 M0 M2 : Mem} {c1 c0 c2 : Nat} {H' : List (Nat × Fm)} {T' : Nat → Option Tm} {v : Int32}, f_X10_hypotheses 2047 0 x M = some (v, M1) → Fr SHd M M1 → 1240 * c1 ≤ 12020 * (k + 1) + 11160 → M1.2.2.1 0 1 = nI 0 → ClS M1 c1 H' gf T' → RfA M1 cR b L H gf T ks (Inn M1 c1) → JnP (Inn M1 c1) H' gf T' → Fr STd (wI M1 89 0 0) M0 → WkG M0 c0 (Inn M1 c1) 121 → f_X11_hypotheses 2047 89 x M1 = some (v, M2) → Fr SRj M0 M2 → M2.2.2.1 89 27 = nI 0 → RfS M2 c2 H' gf T' (Inn M1 c1) (8191 + 434) → c0 ≤ c2 → (∀ i, i < c0 → dR M2 i = dR M0 i) → M1.2.2.1 14 17 = M2.2.2.1 89 32 → M1.2.2.1 14 18 = M2.2.2.1 89 33 → Pr2 (Jn (k + 1)) (f_X10_hypotheses 2047 0 x) (f_X11_hypotheses 2047 89 x) M := by
    intro M1 M0 M2 c1 c0 c2 H' T' v e1 F1 hb1 g01 C1 hR1 hP1 F0 W0 e2 F2 g27 R2 hc2 d2 hE1 hE2
    have hC1 : ClA M1 c1 b 0 H' gf T' ks := ⟨C1, ⟨g01, by omega, fun i hi => by omega⟩, ⟨(F1.int (fun q => by have := hSd _ _ q; omega)).trans hC.2.2.1, hC.2.2.2.1, fun j y hj => (F1.int (fun q => by have := hSd _ _ q; omega)).trans (hC.2.2.2.2 j y hj)⟩⟩
    have F02 : Fr (fun a k => (a = 89 ∧ k = 0) ∨ STd a k ∨ SRj a k) M1 M2 := ((Fr.refl.wI (a := 89) (k := 0) (Or.inl ⟨rfl, rfl⟩) 0).trans (F0.mono (fun a k q => Or.inr (Or.inl q)))).trans (F2.mono (fun a k q => Or.inr (Or.inr q)))
    have hS02 : ∀ a k, ((a = 89 ∧ k = 0) ∨ STd a k ∨ SRj a k) → 89 ≤ a ∧ ¬ (a = 89 ∧ (k = 8 ∨ k = 47)) ∧ a ≠ 109 ∧ a ≠ 117 := fun a k q => by
      rcases q with q | q | q
      · omega
      · unfold STd at q; omega
      · have := hSj _ _ q; omega
    refine ⟨v, M1, M2, e1, fO_89 C1.1, e2, Jn.mk2 (cR := c2) (by omega) (hm.fq F1.q (by unfold SHd SHc SHr SHy SRB SRF SF; omega) (by unfold SHd SHc SHr SHy SRB SRF SF; omega)).up hC1 F02 (fun a k q => (hS02 _ _ q).1) ⟨⟨R2.1, R2.2.1, R2.2.2.1, R2.2.2.2.1, R2.2.2.2.2.1, R2.2.2.2.2.2.mono (by omega)⟩, ⟨g27, by omega, fun i hi => by omega⟩, ⟨(F02.int (fun q => by have := hS02 _ _ q; omega)).trans hR1.2.2.1.1, hR1.2.2.1.2.1, fun j y hj => (F02.int (fun q => by have := hS02 _ _ q; omega)).trans (hR1.2.2.1.2.2 j y hj)⟩, W0.mv F2 (fun a k q => by have := hSj _ _ q; omega) d2 hc2, (F02.int (fun q => by have := hS02 _ _ q; omega)).trans hR1.2.2.2.2⟩ hP1 ⟨?_, ?_⟩⟩
    · rw [F02.int (fun q => by have := (hS02 _ _ q).1; omega)]; exact hE1
    · rw [F02.int (fun q => by have := (hS02 _ _ q).1; omega)]; exact hE2
  by_cases hx : ∃ n, n ≤ L ∧ x = nI n
  · obtain ⟨n, hn, hxn⟩ := hx
    obtain ⟨a3, a4⟩ := a2 n hn hxn
    cases hg : rdH b n 7 0 [] with
    | inl e =>
      obtain ⟨c1, M1, e1, F1, g01, f17, f18, hc1, hc2, T1, d1⟩ := a3 e hg
      have F1' : Fr SHd M M1 := F1.mono (fun a k q => Or.inl q)
      obtain ⟨M0, c0, y0, F0, R0, hc0, W0, hR1, hP1⟩ := ref F1' T1 hc1 d1
      obtain ⟨-, q2⟩ := rx_hypotheses (F1.Wd hC.1.1) hR1.2.1 2000 y0 F0 R0.2.1 (by omega) x
      obtain ⟨c2, M2, e2, F2, g27, g15, f32, f33, l1, l2, T2, d2⟩ := (q2 n hn hxn).1 e hg
      have C1 : ClS M1 c1 H gf T := hC.1.mq F1.q (fun a k q => by have := hSc _ _ q; omega) T1 d1 hc1 (fun k _ => by rw [F1.2.2.1])
      have R2 : RfS M2 c2 H gf T (Inn M1 c1) (8191 + 434) := by
        obtain ⟨w, w1, w2, w3⟩ := R0.2.2.2.1
        refine ⟨F2.Wd R0.1, T2, R0.2.2.1.fr g15 (F2.ints (fun k q => by have := hSk _ _ q; omega)) (F2.ints (fun k q => by have := hSk _ _ q; omega)) (F2.ints (fun k q => by have := hSk _ _ q; omega)) l1 d2, ⟨w, by omega, (F2.int (fun q => by have := hSk _ _ q; omega)).trans w2, (d2 w w1).trans w3⟩, R0.2.2.2.2.1.mv F2 (fun a k q => by have := hSk _ _ q; omega) d2 l1, R0.2.2.2.2.2.grow d2 l2⟩
      exact fin e1 F1' (by omega) g01 C1 hR1 hP1 F0 W0 e2 (F2.mono (fun a k q => Or.inl q)) g27 R2 l1 d2 (f17.trans f32.symm) (f18.trans f33.symm)
    | inr acc =>
      obtain ⟨c1, M1, e1, F1, g01, f17, f18, hc1, hc2, T1, d1, hH1, hcl, hl6, hck⟩ := a4 acc hg
      obtain ⟨M0, c0, y0, F0, R0, hc0, W0, hR1, hP1⟩ := ref F1 T1 hc1 d1
      obtain ⟨-, q2⟩ := rx_hypotheses (F1.Wd hC.1.1) hR1.2.1 2000 y0 F0 R0.2.1 (by omega) x
      obtain ⟨c2, M2, e2, F2, g27, f32, f33, l1, l2, T2, d2, hH2, h104⟩ := (q2 n hn hxn).2 acc hg
      obtain ⟨hW, hPw, -, -, ⟨v, v1, v2, v3, v4⟩, -, hr, tr, ht1, ht2, ht3⟩ := hC.1
      have C1 : ClS M1 c1 (hyL acc) gf (fun _ => none) := ⟨F1.Wd hW, fun w hw => (F1.lng (fun q => by have := hSd _ _ q; omega)).trans (hPw w hw), T1, hH1, ⟨v, by omega, (F1.int (fun q => by have := hSd _ _ q; omega)).trans v2, (d1 v v1).trans v3, (F1.int (fun q => by have := hSd _ _ q; omega)).trans v4⟩, fun s hs => ⟨fun _ => (hcl s hs).1, fun t q => (by cases q)⟩, hr, tr, ht1, by rw [F1.2.2.1]; exact ht2, by rw [F1.2.2.1]; exact ht3⟩
      have R2 : RfS M2 c2 (hyL acc) gf (fun _ => none) (Inn M1 c1) (8191 + 434) := by
        obtain ⟨w, w1, w2, w3⟩ := R0.2.2.2.1
        exact ⟨F2.Wd R0.1, T2, hH2, ⟨w, by omega, (F2.int (fun q => by have := hSj _ _ q; omega)).trans w2, (d2 w w1).trans w3⟩, fun s hs => ⟨fun _ => h104 s hs, fun t q => (by cases q)⟩, R0.2.2.2.2.2.grow d2 l2⟩
      have hP2 : JnP (Inn M1 c1) (hyL acc) gf (fun _ => none) := by
        refine ⟨fun y hy => ?_, ⟨hP1.2.1.1, fun s t hs q => (by cases q)⟩, fun s t hs q => (by cases q)⟩
        obtain ⟨j, hj, ej⟩ := List.getElem_of_mem hy
        obtain ⟨u, u1, -, -, u4, -⟩ := hH1.2.2 j hj
        rw [ej] at u4
        have hw : wdf y.2 ≤ 60 ∧ 2 * lea y.2 + nt y.2 ≤ 31 := by
          unfold hyL at hy
          obtain ⟨z, hz, ez⟩ := List.mem_map.mp hy
          obtain ⟨z1, z2⟩ := hck z hz
          have := hdF_wdf z1
          have hcn : z.2.count 12 ≤ z.2.length := List.count_le_length
          rw [← ez]
          have z3 : some (hdF z.2) = (ev z.2)[0]? := by
            have z4 := (ev_app z1).1
            unfold hdF
            cases hh : ev z.2 with
            | nil => rw [hh] at z4; simp at z4
            | cons f t => rfl
          exact ⟨show wdf (hdF z.2) ≤ 60 by omega, told_tw z1 z3 z2⟩
        exact ⟨⟨⟨u, u1, u4⟩, by have := dpf_wdf y.2; omega⟩, hw⟩
      exact fin e1 F1 (by omega) g01 C1 hR1 hP2 F0 W0 e2 F2 g27 R2 l1 d2 (f17.trans f32.symm) (f18.trans f33.symm)
  · have hn : ∀ n, n ≤ L → x ≠ nI n := fun n hn e => hx ⟨n, hn, e⟩
    obtain ⟨M0, c0, y0, F0, R0, hc0, W0, hR1, hP1⟩ := ref Fr.refl hC.1.2.2.1 (Nat.le_refl _) (fun _ _ => rfl)
    exact jn_ans hb hm hC hR hP hE (a1 hn) ((rx_hypotheses hC.1.1 hR1.2.1 2000 y0 F0 R0.2.1 (by omega) x).1 hn)
end JH
