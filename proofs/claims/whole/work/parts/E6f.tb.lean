/-! WHAT IS KEPT of a slot's proof: its types are short -/
def TmB (H : List (Nat × Fm)) (t : Tm) : Prop := LbP (blB 30000) t ∧ ∃ x, Wc (blB 4700030000) H.length (hF H) t 0 gN 0 x ∧ blen x ≤ 30000
section TMB
variable {H : List (Nat × Fm)} {t t' s : Tm}
theorem TmB.step (h : TmB H t) (hH : ∀ k, k < H.length → blen (hF H k) + 5 ≤ 210) (ht : isT t) {k : Nat} (hs : StT H.length (hF H) t k t') : TmB H t' := by
  obtain ⟨hL, x, hw, hx⟩ := h
  exact ⟨hs.lb (blB_pt _) (show blen (.arg 8) ≤ 30000 by decide) (fun k hk => by have := hH k hk; show blen _ ≤ 30000; omega) ht (hw.imp t ht (fun _ _ _ _ _ => trivial)) hx hL, x, hs.wt ht hw, hx⟩
theorem TmB.nrm (h : TmB H t) (hH : ∀ k, k < H.length → blen (hF H k) + 5 ≤ 210) (ht : isT t) (hz : sz t ≤ 200) {z : Nat} {r : List Nat × Tm} (hn : NrmR H.length (hF H) z t (some r)) : TmB H r.2 := by
  obtain ⟨hL, x, hw, hx⟩ := h
  exact ⟨hn.lb (blB_pt _) (show blen (.arg 8) ≤ 30000 by decide) (fun k hk => by have := hH k hk; show blen _ ≤ 30000; omega) z ht (hw.imp t ht (fun _ _ _ _ _ => trivial)) hx hL, x, (hn.ok z ht hz hw).2.2.1, hx⟩
theorem TmB.cut (h : TmB H t) (h2 : TmB H s) (ht : isT t) (hs : isT s) {j : Nat} {Q : Nat → Fm → Prop} {y : Fm} (ws : Wt Q H.length (hF H) s 0 gN 0 y) (hy : y = hF H j) : TmB H (hbs j s t 0) := by
  obtain ⟨hL, x, hw, hx⟩ := h
  obtain ⟨hL2, x2, hw2, hx2⟩ := h2
  cases Wt.fn s hs hw2 ws
  exact ⟨LbP_hbs hs hL2 t ht 0 hL, x, Wt_hbs hs (by rw [← hy]; exact hw2) t ht hw, hx⟩
/-- a told proof's types are short -/
theorem pfX_B {b : Nat → Nat} {n : Nat} (hn : n ≤ 600) (hH : H.length ≤ 6) {M : Mem} {c : Nat} (hT : TabC M c) (hHm : ∀ k, k < H.length → blen (hF H k) + 5 ≤ 210) {r : Tm × Fm} (h : pfX b n H = .inr r) {CI : Fm → Prop} (hCI : ∀ f, CI f → Inn M c f) (hC : Cls CI) (hw : Wc (OkF CI) H.length (hF H) r.1 0 gN 0 r.2) : TmB H r.1 := by
  obtain ⟨o1, -, -, o4, -⟩ := pfX_ok hH h
  obtain ⟨s, e, h'⟩ := sbg_in h
  obtain ⟨s2, e2, e3⟩ := sbg_in e
  have hs : s.1 = s2.1 := by
    split at e3
    · cases e3; rfl
    · cases e3
  have hr : r.1 = s.1 := by
    cases hy : ty (hF H) s.1 0 gN 0 with
    | inl e => rw [hy] at h'; cases h'
    | inr x => rw [hy] at h'; cases h'; rfl
  have hl : lb60 r.1 := by
    rw [hr, hs]
    exact rdT_w60 hH 121 (Nat.zero_le _) e2
  have hg : WgF b n 0 s2 := rdT_wg hH 121 (Nat.zero_le _) (fun q => by omega) e2
  have hok := rdT_ok hH 121 (Nat.zero_le _) e2
  have h1 := hg.1
  have h2 := hg.2.2.1
  have h3 := hok.2.1
  have h4 := hok.2.2.2.2.1
  have hz : sz r.1 ≤ 120 := by rw [hr, hs]; omega
  have hwg : wg r.1 ≤ 14521 := by rw [hr, hs]; omega
  have hlab := lab_ok (OkF.pt hC) r.1 o1 hw
  have hL : LbP (fun f => blen f + 5 ≤ 210) r.1 := fun nd hm ho => Inn.m210 hT (hCI _ (hlab nd hm ho).1) (hl nd hm ho)
  obtain ⟨g1, g2⟩ := told_ty o1 hHm hL hz hwg (hw.imp r.1 o1 (fun _ _ _ _ _ => trivial))
  exact ⟨fun nd hm ho => by have := hL nd hm ho; show blen _ ≤ 30000; omega, r.2, g2, g1⟩
end TMB
def MkC (k : Nat) (M : Mem) : Prop := ∃ s, s ≤ k ∧ M.2.2.1 2 8 = nI s ∧ ∀ i, i < 5200 → ∃ m, m ≤ s ∧ M.2.2.1 8 i = nI m
theorem MkC.up {k : Nat} {M : Mem} (h : MkC k M) : MkC (k + 1) M := by
  obtain ⟨s, h1, h2, h3⟩ := h
  exact ⟨s, by omega, h2, h3⟩
theorem MkC.fq {k : Nat} {M M1 : Mem} {S : Nat → Nat → Prop} (h : MkC k M) (hF : Fq S M M1) (h1 : ¬ S 2 8) (h2 : ∀ i, ¬ S 8 i) : MkC k M1 := by
  obtain ⟨s, g1, g2, g3⟩ := h
  exact ⟨s, g1, (hF.int h1).trans g2, fun i hi => by
    obtain ⟨m, m1, m2⟩ := g3 i hi
    exact ⟨m, m1, (hF.int (h2 i)).trans m2⟩⟩
