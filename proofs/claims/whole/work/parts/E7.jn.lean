/-! THE INVARIANT over both, and how it goes over a call: STEP -/
def ClA (M : Mem) (c : Nat) (b : Nat → Nat) (L : Nat) (H : List (Nat × Fm)) (gf : Fm) (T : Nat → Option Tm) (ks : List Nat) : Prop := ClS M c H gf T ∧ TpC M b L ∧ TrC M ks
def RfA (M : Mem) (c : Nat) (b : Nat → Nat) (L : Nat) (H : List (Nat × Fm)) (gf : Fm) (T : Nat → Option Tm) (ks : List Nat) (CI : Fm → Prop) : Prop := RfS M c H gf T CI 11000 ∧ TpR M b L ∧ TrR M ks ∧ WkG M c CI 121 ∧ M.2.2.1 89 8 = 0
def JnP (CI : Fm → Prop) (H : List (Nat × Fm)) (gf : Fm) (T : Nat → Option Tm) : Prop := (∀ x, x ∈ H → OkF CI x.2 ∧ wdf x.2 ≤ 60 ∧ 2 * lea x.2 + nt x.2 ≤ 31) ∧ ((OkF CI gf ∧ wdf gf ≤ 60 ∧ 2 * lea gf + nt gf ≤ 31) ∧ ∀ s t, s < 4 → T s = some t → TmB H t) ∧ ∀ s t, s < 4 → T s = some t → isT t ∧ sz t ≤ 200 ∧ ∃ x, Wc (OkF CI) H.length (hF H) t 0 gN 0 x
def FlE (M : Mem) : Prop := M.2.2.1 14 17 = M.2.2.1 89 32 ∧ M.2.2.1 14 18 = M.2.2.1 89 33
def Jn (k : Nat) (M : Mem) : Prop := ∃ c cR b L H gf T ks, ClA M c b L H gf T ks ∧ RfA M cR b L H gf T ks (Inn M c) ∧ JnP (Inn M c) H gf T ∧ FlE M ∧ 1240 * c + 601 * L ≤ 12020 * k + 11160 ∧ MkC k M
section JN
variable {M M1 : Mem} {c c1 : Nat} {b : Nat → Nat} {L : Nat} {H : List (Nat × Fm)} {gf : Fm} {T : Nat → Option Tm} {ks : List Nat} {CI CI1 : Fm → Prop} {K : Nat}
theorem FewR.ci (h : FewR M c CI K) (hI : ∀ f, CI f → CI1 f) : FewR M c CI1 K := by
  obtain ⟨E, hN⟩ := h
  exact ⟨E, fun i h1 h2 => (hN i h1 h2).imp (hI _) id⟩
theorem WkG.ci {z : Nat} (h : WkG M c CI z) (hI : ∀ f, CI f → CI1 f) : WkG M c CI1 z := by
  obtain ⟨m, h1, h2, h3⟩ := h
  exact ⟨m, h1, h2, fun i hi => (h3 i hi).imp id (fun q => q.imp id (fun ⟨v, v1, v2, v3, v4⟩ => ⟨v, v1, v2, v3, v4.imp (hI _) id⟩))⟩
theorem WkG.z {z z1 : Nat} (h : WkG M c CI z) (hz : z ≤ z1) : WkG M c CI z1 := by
  obtain ⟨m, h1, h2, h3⟩ := h
  exact ⟨m, h1, h2, fun i hi => (h3 i hi).imp id (fun q => q.imp id (fun ⟨v, v1, v2, v3, v4⟩ => ⟨v, v1, v2, v3, v4.imp id (fun g => ⟨by omega, g.2⟩)⟩))⟩
theorem OkF.ci (hI : ∀ f, CI f → CI1 f) {f : Fm} (h : OkF CI f) : OkF CI1 f := ⟨hI f h.1, h.2⟩
theorem JnP.ci (h : JnP CI H gf T) (hI : ∀ f, CI f → CI1 f) : JnP CI1 H gf T := ⟨fun x hx => ⟨(h.1 x hx).1.ci hI, (h.1 x hx).2⟩, ⟨⟨h.2.1.1.1.ci hI, h.2.1.1.2⟩, h.2.1.2⟩, fun s t hs hT => by
  obtain ⟨a1, a2, x, a3⟩ := h.2.2 s t hs hT
  exact ⟨a1, a2, x, a3.imp t a1 (fun i y _ _ q => q.ci hI)⟩⟩
theorem JnP.ok (h : JnP CI H gf T) (hC : Cls CI) : OkA CI H gf T := ⟨hC, fun x hx => (h.1 x hx).1, h.2.1.1.1, fun s t hs hT => by
  obtain ⟨a1, a2, x, a3⟩ := h.2.2 s t hs hT
  exact ⟨a1, a2, lab_ok (OkF.pt hC) t a1 a3⟩⟩
theorem JnP.set (h : JnP CI H gf T) {s : Nat} {t : Tm} (h1 : isT t) (h2 : sz t ≤ 200) {x : Fm} (h3 : Wc (OkF CI) H.length (hF H) t 0 gN 0 x) (h4 : TmB H t) : JnP CI H gf (ups T s (some t)) := ⟨h.1, ⟨h.2.1.1, fun r u hr hu => by
  by_cases e : r = s
  · rw [e, ups_at] at hu
    cases hu
    exact h4
  · rw [ups_ne _ _ e] at hu
    exact h.2.1.2 r u hr hu⟩, fun r u hr hu => by
  by_cases e : r = s
  · rw [e, ups_at] at hu
    cases hu
    exact ⟨h1, h2, x, h3⟩
  · rw [ups_ne _ _ e] at hu
    exact h.2.2 r u hr hu⟩
/-- the reference's state is kept where only the class's cells are written -/
theorem RfA.cls {S : Nat → Nat → Prop} (h : RfA M c b L H gf T ks CI) (hF : Fq S M M1) (hS : ∀ a k, S a k → a < 89) (hI : ∀ f, CI f → CI1 f) : RfA M1 c b L H gf T ks CI1 := by
  obtain ⟨hR, hT, hK, hw, h8⟩ := h
  have hW1 := hF.Wd hR.1
  have hU : RfS (unR M M1) c H gf T CI 11000 := hR.w hF.un (fun a k q => by have := hS _ _ q; omega)
  have i : ∀ a k, 89 ≤ a → M1.2.2.1 a k = M.2.2.1 a k := fun a k ha => hF.int (fun q => by have := hS _ _ q; omega)
  have hd : ∀ v, dR M1 v = dR M v := fun v => by rw [dR_fq hF (fun k q => by have := hS _ _ q; omega) (fun k q => by have := hS _ _ q; omega) (fun k q => by have := hS _ _ q; omega)]
  refine ⟨⟨hW1, hU.2.1, hU.2.2.1, hU.2.2.2.1, hU.2.2.2.2.1, FewR.ci (show FewR M1 c CI 11000 from hU.2.2.2.2.2) hI⟩, ?_, ⟨(i _ _ (by omega)).trans hK.1, hK.2.1, fun j x hj => (i _ _ (by omega)).trans (hK.2.2 j x hj)⟩, WkG.ci ?_ hI, (i _ _ (by omega)).trans h8⟩
  · obtain ⟨t1, t2, t3⟩ := hT
    exact ⟨(i _ _ (by omega)).trans t1, t2, fun j hj => ⟨(t3 j hj).1, (i _ _ (by omega)).trans (t3 j hj).2⟩⟩
  · obtain ⟨m, h1, h2, h3⟩ := hw
    refine ⟨m, h1, (i _ _ (by omega)).trans h2, fun j hj => ?_⟩
    rw [i 105 j (by omega), i 106 j (by omega)]
    exact (h3 j hj).imp id (fun q => q.imp id (fun ⟨v, v1, v2, v3, v4⟩ => ⟨v, v1, v2, by rw [hd]; exact v3, by rw [hd]; exact v4⟩))
/-- and the class's where only the reference's are -/
theorem ClA.ref {S : Nat → Nat → Prop} (h : ClA M c b L H gf T ks) (hF : Fr S M M1) (hS : ∀ a k, S a k → 89 ≤ a) : ClA M1 c b L H gf T ks := by
  obtain ⟨hC, hT, hK⟩ := h
  have i : ∀ a k, a < 89 → M1.2.2.1 a k = M.2.2.1 a k := fun a k ha => hF.int (fun q => by have := hS _ _ q; omega)
  refine ⟨hC.wq hF.q (fun a k q => by have := hS _ _ q; omega) (fun k _ => by rw [hF.2.2.1]), ?_, ⟨(i _ _ (by omega)).trans hK.1, hK.2.1, fun j x hj => (i _ _ (by omega)).trans (hK.2.2 j x hj)⟩⟩
  obtain ⟨t1, t2, t3⟩ := hT
  exact ⟨(i _ _ (by omega)).trans t1, t2, fun j hj => ⟨(t3 j hj).1, (i _ _ (by omega)).trans (t3 j hj).2⟩⟩
theorem Inn.ref {S : Nat → Nat → Prop} (hF : Fr S M M1) (hS : ∀ a k, S a k → 89 ≤ a) : ∀ f, Inn M c f → Inn M1 c f := fun f ⟨v, v1, v2⟩ => ⟨v, v1, by
  rw [dC_fq hF.q (fun k q => by have := hS _ _ q; omega) (fun k q => by have := hS _ _ q; omega) (fun k q => by have := hS _ _ q; omega)]
  exact v2⟩
theorem RfA.mk {T' : Nat → Option Tm} (hR' : RfS M1 c1 H gf T' CI K) (hK : K ≤ 11000) (h : RfA M c b L H gf T ks CI) {S : Nat → Nat → Prop} (hF : Fr S M M1) (hS : ∀ a k, S a k → ¬ (a = 89 ∧ (k = 8 ∨ k = 27 ∨ k = 47)) ∧ a ≠ 109 ∧ a ≠ 117) {z : Nat} (hw : WkG M1 c1 CI z) (hz : z ≤ 121) : RfA M1 c1 b L H gf T' ks CI := by
  obtain ⟨-, hT, hKs, -, h8⟩ := h
  exact ⟨⟨hR'.1, hR'.2.1, hR'.2.2.1, hR'.2.2.2.1, hR'.2.2.2.2.1, hR'.2.2.2.2.2.mono hK⟩, ⟨(hF.int (fun q => (hS _ _ q).1 (by omega))).trans hT.1, hT.2.1, fun j hj => ⟨(hT.2.2 j hj).1, (hF.int (fun q => (hS _ _ q).2.1 rfl)).trans (hT.2.2 j hj).2⟩⟩, ⟨(hF.int (fun q => (hS _ _ q).1 (by omega))).trans hKs.1, hKs.2.1, fun j x hj => (hF.int (fun q => (hS _ _ q).2.2 rfl)).trans (hKs.2.2 j x hj)⟩, hw.z hz, (hF.int (fun q => (hS _ _ q).1 (by omega))).trans h8⟩
theorem ClA.mk (h : ClA M c b L H gf T ks) {T' : Nat → Option Tm} (hC : ClS M1 c H gf T') {S : Nat → Nat → Prop} (hF : Fq S M M1) (hS : ∀ a k, S a k → ¬ (a = 0 ∧ (k = 1 ∨ k = 15)) ∧ a ≠ 1 ∧ a ≠ 88) : ClA M1 c b L H gf T' ks := by
  obtain ⟨-, hT, hK⟩ := h
  exact ⟨hC, ⟨(hF.int (fun q => (hS _ _ q).1 (by omega))).trans hT.1, hT.2.1, fun j hj => ⟨(hT.2.2 j hj).1, (hF.int (fun q => (hS _ _ q).2.1 rfl)).trans (hT.2.2 j hj).2⟩⟩, ⟨(hF.int (fun q => (hS _ _ q).1 (by omega))).trans hK.1, hK.2.1, fun j x hj => (hF.int (fun q => (hS _ _ q).2.2 rfl)).trans (hK.2.2 j x hj)⟩⟩
theorem Jn.up {k : Nat} (h : Jn k M) : Jn (k + 1) M := by
  obtain ⟨c, cR, b, L, H, gf, T, ks, h1, h2, h3, h4, h5, h6⟩ := h
  exact ⟨c, cR, b, L, H, gf, T, ks, h1, h2, h3, h4, by omega, h6.up⟩
/-- both calls done: what is left to see -/
theorem Jn.two {k cR : Nat} {T' : Nat → Option Tm} {M2 : Mem} {SC SR : Nat → Nat → Prop} (hb : 1240 * c + 601 * L ≤ 12020 * k + 11160) (hm : MkC k M) (hC1 : ClA M1 c b L H gf T' ks) (hF1 : Fq SC M M1) (hSC : ∀ a k, SC a k → ¬ (a = 14 ∧ (k = 17 ∨ k = 18)) ∧ a < 89 ∧ a ≠ 2 ∧ a ≠ 8) (hF2 : Fr SR M1 M2) (hSR : ∀ a k, SR a k → 89 ≤ a ∧ ¬ (a = 89 ∧ (k = 32 ∨ k = 33))) (hR2 : RfA M2 cR b L H gf T' ks (Inn M1 c)) (hP : JnP (Inn M1 c) H gf T') (hE : FlE M) : Jn (k + 1) M2 := by
  have hI := Inn.ref (c := c) hF2 (fun a k q => (hSR _ _ q).1)
  refine ⟨c, cR, b, L, H, gf, T', ks, hC1.ref hF2 (fun a k q => (hSR _ _ q).1), ?_, hP.ci hI, ⟨?_, ?_⟩, by omega, ((hm.fq hF1 (fun q => by have := hSC _ _ q; omega) (fun i q => by have := hSC _ _ q; omega)).fq hF2.q (fun q => by have := (hSR _ _ q).1; omega) (fun i q => by have := (hSR _ _ q).1; omega)).up⟩
  · obtain ⟨a1, a2, a3, a4, a5⟩ := hR2
    exact ⟨⟨a1.1, a1.2.1, a1.2.2.1, a1.2.2.2.1, a1.2.2.2.2.1, a1.2.2.2.2.2.ci hI⟩, a2, a3, a4.ci hI, a5⟩
  · rw [hF2.int (fun q => by have := (hSR _ _ q).1; omega), hF2.int (fun q => (hSR _ _ q).2 (by omega)), hF1.int (fun q => (hSC _ _ q).1 (by omega)), hF1.int (fun q => by have := (hSC _ _ q).2; omega)]
    exact hE.1
  · rw [hF2.int (fun q => by have := (hSR _ _ q).1; omega), hF2.int (fun q => (hSR _ _ q).2 (by omega)), hF1.int (fun q => (hSC _ _ q).1 (by omega)), hF1.int (fun q => by have := (hSC _ _ q).2; omega)]
    exact hE.2
theorem JnP.hb (hP : JnP (Inn M c) H gf T) (hT : TabC M c) : ∀ k, k < H.length → blen (hF H k) + 5 ≤ 210 := fun k hk => by
  have := hP.1 _ (List.getElem_mem hk)
  rw [hF_at hk]
  exact Inn.m210 hT this.1.1 this.2.1
theorem fO_89 (hW : Wd M) : fO M 89 11 := fO_R hW
theorem Wc.inn {t : Tm} {x : Fm} {h : Nat} {Hf : Nat → Fm} (ht : isT t) (hw : Wc (OkF (Inn M c)) h Hf t 0 gN 0 x) : Wc (Inn M c) h Hf t 0 gN 0 x := hw.imp t ht (fun i y _ _ q => q.1)
theorem Inn.cls {S : Nat → Nat → Prop} (hF : Fq S M M1) (hS : ∀ a k, S a k → 10 ≤ a) : ∀ f, Inn M c f → Inn M1 c f := fun f ⟨v, v1, v2⟩ => ⟨v, v1, by
  rw [dC_fq hF (fun k q => by have := hS _ _ q; omega) (fun k q => by have := hS _ _ q; omega) (fun k q => by have := hS _ _ q; omega)]
  exact v2⟩
set_option maxHeartbeats 1000000 in
theorem j_step {k : Nat} (h : Jn k M) (x : Int32) : Pr2 (Jn (k + 1)) (f_X10_step 2047 0 x) (f_X11_step 2047 89 x) M := by
  obtain ⟨c, cR, b, L, H, gf, T, ks, hC, hR, hP, hE, hb, hm⟩ := h
  have hCl := Inn_cls hC.1.2.2.1
  obtain ⟨c1, c2⟩ := c_step hC.1 2042 x
  -- the reference's cells, whatever the class did
  have ref : ∀ {M1 : Mem} {SC : Nat → Nat → Prop}, Fq SC M M1 → (∀ a k, SC a k → 10 ≤ a ∧ a < 89) → RfA M1 cR b L H gf T ks (Inn M1 c) ∧ JnP (Inn M1 c) H gf T ∧ Cls (Inn M1 c) := by
    intro M1 SC hF hS
    have hI := Inn.cls (c := c) hF (fun a k q => (hS _ _ q).1)
    exact ⟨hR.cls hF (fun a k q => (hS _ _ q).2) hI, hP.ci hI, Inn_cls (tab_mq hC.1.2.2.1 hF (fun a k q => (hS _ _ q).1)).1⟩
  have hSu : ∀ a k, SSu a k → 89 ≤ a ∧ ¬ (a = 89 ∧ (k = 32 ∨ k = 33)) := fun a k q => by unfold SSu SSq SSp SR STd STr at q; omega
  have hSu2 : ∀ a k, SSu a k → ¬ (a = 89 ∧ (k = 8 ∨ k = 27 ∨ k = 47)) ∧ a ≠ 109 ∧ a ≠ 117 := fun a k q => by unfold SSu SSq SSp SR STd STr at q; omega
  -- refused calls
  have refuse : ∀ {v : Int32}, f_X10_step 2047 0 x M = some (v, M) → f_X11_step 2047 89 x M = some (v, wI M 89 0 0) → Pr2 (Jn (k + 1)) (f_X10_step 2047 0 x) (f_X11_step 2047 89 x) M := by
    intro v e1 e2
    have F2 : Fr SSu M (wI M 89 0 0) := Fr.refl.wI (by unfold SSu; omega) _
    have F2' : Fr (fun a k => a = 89 ∧ k = 0) M (wI M 89 0 0) := Fr.refl.wI ⟨rfl, rfl⟩ _
    have hw : WkG (wI M 89 0 0) cR (Inn M c) 121 := hR.2.2.2.1
    refine ⟨v, M, _, e1, fO_89 hC.1.1, e2, Jn.two hb hm (hC) (Fq.refl (S := fun _ _ => False)) (fun a k q => q.elim) F2 hSu (RfA.mk (hR.1.w F2' (fun a k q => by omega)) (Nat.le_refl _) hR F2 hSu2 hw (Nat.le_refl _)) hP hE⟩
  obtain ⟨r1, r2⟩ := rx_step hR.1 (hP.ok hCl) (by omega) (Nat.le_refl _) hR.2.2.2.2 1640 x
  rcases slot_cases x with ⟨s, hs, hx⟩ | hn
  · obtain ⟨c3, c4⟩ := c2 s hs hx
    obtain ⟨r3, -⟩ := r2 s hs hx
    cases hT : T s with
    | none => exact refuse (c3 hT) (r3 hT)
    | some t =>
      obtain ⟨ht, hz, y, hw⟩ := hP.2.2 s t hs hT
      obtain ⟨c5, c6⟩ := c4 t y hT ht (Wc.inn ht hw)
      cases hf : frx (rws t) (sz t) 0 with
      | none =>
        obtain ⟨-, r4⟩ := r2 s hs hx
        obtain ⟨M2, cr, e2, F2, R2, W2⟩ := (r4 t y hT hw).1 hf
        exact ⟨0, M, M2, c5 hf, fO_89 hC.1.1, e2, Jn.two hb hm hC (Fq.refl (S := fun _ _ => False)) (fun a k q => q.elim) F2 hSu (RfA.mk R2 (by omega) hR F2 hSu2 W2 (by omega)) hP hE⟩
      | some j =>
        obtain ⟨kd, t', hst⟩ := StT.ex ht (hw.imp t ht (fun _ _ _ _ _ => trivial)) hf
        obtain ⟨c7, c8⟩ := c6 kd t' hst
        by_cases hb2 : 200 < sz t'
        · obtain ⟨M1, e1, F1, C1⟩ := c7 hb2
          have hS1 : ∀ a k, SCs a k → 10 ≤ a ∧ a < 89 := fun a k q => by unfold SCs SO SAg at q; omega
          obtain ⟨hR1, hP1, hCl1⟩ := ref F1 hS1
          obtain ⟨-, q2⟩ := rx_step hR1.1 (hP1.ok hCl1) (by omega) (Nat.le_refl _) hR1.2.2.2.2 1640 x
          obtain ⟨-, -, y2, hw2⟩ := hP1.2.2 s t hs hT
          obtain ⟨M2, cr, e2, F2, R2, W2⟩ := ((((q2 s hs hx).2 t y2 hT hw2).2 kd t' hst).1 hb2)
          exact ⟨-4, M1, M2, e1, fO_89 C1.1, e2, Jn.two hb hm (hC.mk C1 F1 (fun a k q => by have := hS1 _ _ q; unfold SCs SO SAg at q; omega)) F1 (fun a k q => by unfold SCs SO SAg at q; omega) F2 hSu (RfA.mk R2 (by omega) hR1 F2 hSu2 W2 (by omega)) hP1 hE⟩
        · obtain ⟨M1, e1, F1, C1⟩ := c8 (by omega)
          have hS1 : ∀ a k, (SCs a k ∨ SO (25 + 3 * s) a k) → 10 ≤ a ∧ a < 89 := fun a k q => by unfold SCs SO SAg at q; omega
          obtain ⟨hR1, hP1, hCl1⟩ := ref F1 hS1
          obtain ⟨-, q2⟩ := rx_step hR1.1 (hP1.ok hCl1) (by omega) (Nat.le_refl _) hR1.2.2.2.2 1640 x
          obtain ⟨-, -, y2, hw2⟩ := hP1.2.2 s t hs hT
          obtain ⟨M2, cr, e2, F2, R2, W2⟩ := ((((q2 s hs hx).2 t y2 hT hw2).2 kd t' hst).2 (by omega))
          exact ⟨nI kd, M1, M2, e1, fO_89 C1.1, e2, Jn.two hb hm (hC.mk C1 F1 (fun a k q => by unfold SCs SO SAg at q; omega)) F1 (fun a k q => by unfold SCs SO SAg at q; omega) F2 hSu (RfA.mk R2 (by omega) hR1 F2 hSu2 W2 (by omega)) (hP1.set hst.tm (by omega) (hst.wt ht hw2) ((hP1.2.1.2 s t hs hT).step (hP1.hb C1.2.2.1) ht hst)) hE⟩
  · exact refuse (c1 hn) (r1 hn)
end JN
