/-! READING A TERM in the reference: its pieces, one behind the other -/
section RRW
variable {M M1 M2 M3 : Mem} {b : Nat → Nat} {n : Nat} {c c1 : Nat} {H : List (Nat × Fm)} {sc : List Nat} {l : List (Nat × Tm)} {pls : List Nat} {p : Nat}
/-- a node whose formula is still to come -/
def RrP (M : Mem) (c : Nat) (b : Nat → Nat) (n : Nat) (H : List (Nat × Fm)) (sc : List Nat) (l : List (Nat × Tm)) (pls : List Nat) (o : Nat) (g : Int32) (p : Nat) : Prop := Wd M ∧ TxR M b n ∧ TabR M c ∧ HyR M 15 96 97 98 c H ∧ (M.2.2.1 89 24 = nI (l.length + 1) ∧ RowR M 105 106 0 c l ∧ okD l ∧ M.2.2.1 105 l.length = nI (o - 1) ∧ M.2.2.1 106 l.length = g) ∧ (PcR M pls ∧ pls.length = l.length + 1) ∧ ScR M sc ∧ (M.2.2.1 89 29 = nI p ∧ p ≤ n) ∧ M.2.2.1 89 30 = 0 ∧ M.2.2.1 89 31 = -1
theorem RrP.done {o : Nat} {lb : Tm} {g : Int32} (h : RrP M c b n H sc l pls o g p) (h1 : 1 ≤ o) (h10 : o ≤ 10) (hg : agR M c (o, lb) g) (hd : tf o → wdf lb ≤ 60) : RrS M c b n H sc (l ++ [(o, lb)]) pls p := by
  obtain ⟨hW, hX, hT, hH, ⟨h24, hR, hD, h5, h6⟩, ⟨hp1, hp2⟩, hS, h29, h30, h31⟩ := h
  refine ⟨hW, hX, hT, hH, ⟨by rw [h24]; simp, hR.push h1 h10 (fun _ _ => rfl) (fun _ _ => rfl) h5 h6 (fun _ _ => rfl) (Nat.le_refl _) hg, fun nd hn ht => ?_⟩, ⟨hp1, by rw [hp2]; simp⟩, hS, h29, h30, h31⟩
  rw [List.mem_append, List.mem_singleton] at hn
  rcases hn with hn | rfl
  · exact hD nd hn ht
  · exact hd ht
def OkS (M : Mem) (c : Nat) : Prop := TabR M c ∧ WkO M c
theorem RrS.oks (h : RrS M c b n H sc l pls p) (hl : l.length ≤ 120) : OkS M c := ⟨h.2.2.1, h.ok hl rfl rfl rfl (fun _ _ => rfl) (Nat.le_refl _)⟩
theorem RrP.oks {o : Nat} (h : RrP M c b n H sc l pls o (-1) p) (hl : l.length ≤ 120) : OkS M c := by
  obtain ⟨hW, hX, hT, hH, ⟨h24, hR, hD, h5, h6⟩, -⟩ := h
  refine ⟨hT, l.length + 1, by omega, h24, fun i hi => ?_⟩
  by_cases e : i = l.length
  · subst e
    right
    left
    rw [h6]
    decide
  · obtain ⟨a1, a2, a3, a4⟩ := hR.2 i _ (opl_get (show i < l.length by omega))
    rw [Nat.zero_add] at a1 a2 a3 a4
    by_cases h1 : opl l i = 1
    · left
      rw [a1, h1]
      rfl
    · by_cases ht : tf (opl l i)
      · obtain ⟨v, g1, g2, g3⟩ := a3 ht
        refine Or.inr (Or.inr ⟨v, g1, g2, ?_⟩)
        rw [g3]
        exact hD _ (List.mem_of_getElem? (opl_get (show i < l.length by omega))) ht
      · right
        left
        rw [a4 h1 ht]
        decide
theorem OkS.mv (h : OkS M c) {S : Nat → Nat → Prop} (hF : Fr S M M1) (h7 : ¬ S 89 7) (h24 : ¬ S 89 24) (hS : ∀ a k, S a k → ¬ (90 ≤ a ∧ a ≤ 94) ∧ a ≠ 105 ∧ a ≠ 106) : OkS M1 c := by
  obtain ⟨T1, d1⟩ := tabR_mv h.1 hF h7 (fun a k q => (hS a k q).1)
  obtain ⟨m, m1, m2, m3⟩ := h.2
  refine ⟨T1, m, m1, (hF.int h24).trans m2, fun i hi => ?_⟩
  rw [hF.int (fun q => (hS _ _ q).2.1 rfl), hF.int (fun q => (hS _ _ q).2.2 rfl)]
  rcases m3 i hi with z | z | ⟨v, z1, z2, z3⟩
  · exact Or.inl z
  · exact Or.inr (Or.inl z)
  · exact Or.inr (Or.inr ⟨v, z1, z2, by rw [d1]; exact z3⟩)
/-- a fault is kept there -/
theorem OkS.fail (h : OkS M c) {S : Nat → Nat → Prop} (hF : Fr S M M1) (hS : ∀ a k, S a k → (a = 89 ∧ (k = 29 ∨ k = 39)) ∨ a = 111 ∨ a = 112) {kd pl : Nat} (hk : 1 ≤ kd ∧ kd ≤ 5) : RyF M c n p (wI (wI M1 89 30 (nI kd)) 89 31 (nI pl)) (kd, pl) := by
  have F2 : Fr (fun a k => S a k ∨ (a = 89 ∧ (k = 30 ∨ k = 31))) M (wI (wI M1 89 30 (nI kd)) 89 31 (nI pl)) := ((hF.mono (fun a k q => Or.inl q)).wI (Or.inr ⟨rfl, by omega⟩) _).wI (Or.inr ⟨rfl, by omega⟩) _
  have hS2 : ∀ a k, (S a k ∨ (a = 89 ∧ (k = 30 ∨ k = 31))) → (a = 89 ∧ (k = 29 ∨ k = 30 ∨ k = 31 ∨ k = 39)) ∨ a = 111 ∨ a = 112 := fun a k q => by
    rcases q with q | q
    · have := hS a k q
      omega
    · omega
  have h2 := h.mv F2 (fun q => by have := hS2 _ _ q; omega) (fun q => by have := hS2 _ _ q; omega) (fun a k q => by have := hS2 _ _ q; omega)
  obtain ⟨T2, d2⟩ := tabR_mv h.1 F2 (fun q => by have := hS2 _ _ q; omega) (fun a k q => by have := hS2 _ _ q; omega)
  exact ⟨F2.mono (fun a k q => by have := hS2 _ _ q; unfold SRy; omega), by simp [up2_if], by simp [up2_if], hk, c, T2, Nat.le_refl _, by omega, fun i _ => d2 i, h2.2⟩
theorem RyF.a39 (hc0 : 0 < c) {e : Nat × Nat} (h : RyF M c n p M1 e) (x : Int32) : RyF M c n p (wI M1 89 39 x) e := h.dd hc0 (Fr.refl.wI (by unfold SDd; omega) _) (fun m _ _ i _ => Or.inl (by simp [up2_if]))
theorem RyF.wr {e : Nat × Nat} (h : RyF M c n p M1 e) : ¬ M1.2.2.1 89 30 = 0 := by
  rw [h.2.1]
  have := h.2.2.2.1
  intro q
  have := (nI_eq (b := 0) (by omega) (by omega)).mp q
  omega
theorem RyF.wd {e : Nat × Nat} (h : RyF M c n p M1 e) (hW : Wd M) : Wd M1 := h.1.Wd hW
def SAd (a k : Nat) : Prop := a = 105 ∨ a = 106 ∨ a = 110 ∨ (a = 89 ∧ (k = 24 ∨ k = 29))
/-- the node is added -/
theorem ry_add (h : RrS M c b n H sc l pls p) (hl : l.length < 120) (F2 : Fr SP M M2) (g2 : M2.2.2.1 89 29 = nI (tq b n p)) (k : Nat) (o : Nat) (g : Int32) : ∃ M3, f_X11_adds (k + 3) 89 (nI (tq b n p)) (nI (o - 1)) g M2 = some ((), M3) ∧ Fr SAd M M3 ∧ RrP M3 c b n H sc l (pls ++ [tq b n p]) o g (te b n p) := by
  obtain ⟨hW, hX, hT, hH, ⟨h24, hR, hD⟩, ⟨hp1, hp2⟩, hS, ⟨h29, hp⟩, h30, h31⟩ := h
  have hle := tq_le b n p hp
  have hW2 := F2.Wd hW
  have hX2 : TxR M2 b n := hX.fr F2 (by unfold SP; omega) (fun k => by unfold SP; omega)
  have m24 : M2.2.2.1 89 24 = nI l.length := (F2.int (by unfold SP; omega)).trans h24
  have m30 : M2.2.2.1 89 30 = 0 := (F2.int (by unfold SP; omega)).trans h30
  obtain ⟨M1, e1, F1⟩ := (rx_adds hW2 hX2 hp g2 m24 (by omega) k (nI (tq b n p)) (nI (o - 1)) g).2.2 m30 hl
  have FA : Fr SAd M2 (adR M2 l.length (nI (tq b n p)) (nI (o - 1)) g) := (((Fr.refl.wI (by unfold SAd; omega) _).wI (by unfold SAd; omega) _).wI (by unfold SAd; omega) _).wI (by unfold SAd; omega) _
  have F3 : Fr SAd M (wI M1 89 29 (nI (te b n p))) := (((F2.mono (fun a k q => by unfold SP at q; unfold SAd; omega)).trans FA).trans (F1.mono (fun a k q => by unfold SP at q; unfold SAd; omega))).wI (by unfold SAd; omega) _
  obtain ⟨T3, d3⟩ := tabR_mv hT F3 (by unfold SAd; omega) (fun a k q => by unfold SAd at q; omega)
  have i2 : ∀ a j, a ≠ 89 → M2.2.2.1 a j = M.2.2.1 a j := fun a j ha => F2.int (by unfold SP; omega)
  have i1 : ∀ a j, a ≠ 89 → (wI M1 89 29 (nI (te b n p))).2.2.1 a j = (adR M2 l.length (nI (tq b n p)) (nI (o - 1)) g).2.2.1 a j := fun a j ha => by
    rw [← F1.int (show ¬ SP a j by unfold SP; omega)]
    simp [up2_if, ha]
  refine ⟨_, e1, F3, F3.Wd hW, hX.fr F3 (by unfold SAd; omega) (fun k => by unfold SAd; omega), T3, hH.mv F3 (by unfold SAd; omega) (fun a k q => by unfold SAd at q; omega) (fun i _ => d3 i) (Nat.le_refl _), ⟨?_, hR.mv (fun i hi => ?_) (fun i hi => ?_) (fun i _ => d3 i) (Nat.le_refl _), hD, ?_, ?_⟩, ⟨fun i x q => ?_, by rw [List.length_append, hp2]; rfl⟩, hS.mv F3 (by unfold SAd; omega) (fun k => by unfold SAd; omega) (fun k => by unfold SAd; omega), ⟨by simp [up2_if], hle.2.2.2⟩, (F3.int (by unfold SAd; omega)).trans h30, (F3.int (by unfold SAd; omega)).trans h31⟩
  · have : M1.2.2.1 89 24 = nI (l.length + 1) := by
      rw [F1.int (by unfold SP; omega)]
      simp [up2_if]
    simp [up2_if, this]
  · have ne : i ≠ l.length := by omega
    rw [i1 _ _ (by omega), Nat.zero_add]
    simp [up2_if, ne, i2 105 i (by omega)]
  · have ne : i ≠ l.length := by omega
    rw [i1 _ _ (by omega), Nat.zero_add]
    simp [up2_if, ne, i2 106 i (by omega)]
  · rw [i1 _ _ (by omega)]
    simp [up2_if]
  · rw [i1 _ _ (by omega)]
    simp [up2_if]
  · rw [i1 _ _ (by omega)]
    rcases get_app q with ⟨q1, q2⟩ | ⟨q1, q2⟩
    · have ne : i ≠ l.length := by omega
      simp [up2_if, ne, i2 110 i (by omega), hp1 i x q2]
    · have : i = l.length := by omega
      subst this q2
      simp [up2_if]
/-- a name -/
theorem ry_name (h : RrS M c b n H sc l pls p) (hl : l.length ≤ 120) (hN : isN b n p) (F2 : Fr SP M M2) (g2 : M2.2.2.1 89 29 = nI (tq b n p)) (k : Nat) : (∀ e, rdN (mng sc H (nmAt b n p)) l.length (tq b n p) (te b n p) = .inl e → ∃ M3, f_X11_readName0 (k + 5) 89 (nI (tq b n p)) (nI (te b n p - tq b n p)) M2 = some ((), M3) ∧ RyF M c n p M3 e) ∧ (∀ t, mng sc H (nmAt b n p) = some t → l.length < 120 → ∃ M3, f_X11_readName0 (k + 5) 89 (nI (tq b n p)) (nI (te b n p - tq b n p)) M2 = some ((), M3) ∧ Fr SAd M M3 ∧ RrS M3 c b n H sc (l ++ [(1, t)]) (pls ++ [tq b n p]) (te b n p)) := by
  have hA := fun hl' g => ry_add h hl' F2 g2 (k + 1) 1 g
  have hok := h.oks hl
  obtain ⟨hW, hX, hT, hH, ⟨h24, hR, hD⟩, ⟨hp1, hp2⟩, hS, ⟨h29, hp⟩, h30, h31⟩ := h
  have hle := tq_le b n p hp
  have hW2 := F2.Wd hW
  have hO2 := fO_R hW2
  have hX2 : TxR M2 b n := hX.fr F2 (by unfold SP; omega) (fun k => by unfold SP; omega)
  have m24 : M2.2.2.1 89 24 = nI l.length := (F2.int (by unfold SP; omega)).trans h24
  have m30 : M2.2.2.1 89 30 = 0 := (F2.int (by unfold SP; omega)).trans h30
  obtain ⟨T2, d2⟩ := tabR_mv hT F2 (by unfold SP; omega) (fun a k q => by unfold SP at q; omega)
  have hH2 : HyR M2 15 96 97 98 c H := hH.mv F2 (by unfold SP; omega) (fun a k q => by unfold SP at q; omega) (fun i _ => d2 i) (Nat.le_refl _)
  have hS2 : ScR M2 sc := hS.mv F2 (by unfold SP; omega) (fun k => by unfold SP; omega) (fun k => by unfold SP; omega)
  have h6 := hH.2.1
  have hs24 := hS.2.1
  have em := rx_meant hW2 hX2 hp g2 hN hS2 hH2 (k + 3)
  obtain ⟨m, hm⟩ : ∃ m, m = k + 4 := ⟨_, rfl⟩
  rw [show k + 3 + 1 = m by omega] at em
  rw [show k + 5 = m + 1 by omega]
  have e0 : f_X11_readName0 (m + 1) 89 (nI (tq b n p)) (nI (te b n p - tq b n p)) M2 = T_X11_readName0_0 (fun v M => some (v, M)) none (m + 1) 89 (nI (tq b n p)) (nI (te b n p - tq b n p)) M2 := rfl
  have ad := fun x y z => rx_adds hW2 hX2 hp g2 m24 hl (k + 1) x y z
  rw [show k + 1 + 3 = m by omega] at ad hA
  cases hmn : mng sc H (nmAt b n p) with
  | none =>
    refine ⟨fun e he => ?_, fun t q => (by cases q)⟩
    rw [rdN_n] at he
    cases he
    rw [hmn] at em
    have ef := (rx_fails hW2 m 3 (nI (tq b n p))).1 m30
    have hW3 : Wd (wI (wI M2 89 30 3) 89 31 (nI (tq b n p))) := (hW2.wI _ _ _).wI _ _ _
    have FX : Fr (fun a k => a = 89 ∧ (k = 30 ∨ k = 31)) M2 (wI (wI M2 89 30 3) 89 31 (nI (tq b n p))) := (Fr.refl.wI ⟨rfl, by omega⟩ _).wI ⟨rfl, by omega⟩ _
    have ea := (rx_adds hW3 (hX2.fr FX (by omega) (by omega)) hp (by simp [up2_if, g2]) (by simp [up2_if, m24]) hl (k + 1) (nI (tq b n p)) 0 (-7)).1 (by simp [up2_if])
    rw [show k + 1 + 3 = m by omega] at ea
    refine ⟨_, ?_, hok.fail F2 (fun a k q => by unfold SP at q; omega) (kd := 3) (pl := tq b n p) (by omega)⟩
    rw [e0]
    unfold T_X11_readName0_0
    simp (disch := omega) only [↓reduceIte, ↓gd_pos hO2, ↓gd_pos (fO_R hW3), ↓bnd2_of (show cal (m + 1) (fun zz => f_X11_meant zz 89 (nI (te b n p - tq b n p)) M2) = _ from em), show mgR none = -7 from rfl, show ((-6 : Int32) ≤ -7) = False from eq_false (by decide), ↓bnd2_of (show cal (m + 1) (fun zz => f_X11_fails zz 89 3 (nI (tq b n p)) M2) = _ from ef), ↓bnd2_of (show cal (m + 1) (fun zz => f_X11_adds zz 89 (nI (tq b n p)) 0 (-7) (wI (wI M2 89 30 3) 89 31 (nI (tq b n p)))) = _ from ea)]
    rfl
  | some t =>
    rw [hmn] at em
    have hge : ((-6 : Int32) ≤ mgR (some t)) = True := by
      apply eq_true
      show (-6 : Int32) ≤ nv t
      unfold mng at hmn
      rcases lstI_is sc (nmAt b n p) sc.length with ⟨q, -⟩ | ⟨i, h1, -, q, -⟩
      · rw [q] at hmn
        rcases fstI_is H (nmAt b n p) H.length 0 with ⟨q2, -⟩ | ⟨i, -, h1, -, q2, -⟩
        · rw [q2] at hmn; cases hmn
        · rw [q2] at hmn
          cases hmn
          exact (show ∀ i, i < 6 → (-6 : Int32) ≤ -1 - nI i by decide +kernel) i (by omega)
      · rw [q] at hmn
        cases hmn
        exact (show ∀ i, i < 24 → (-6 : Int32) ≤ nI i by decide +kernel) i (by omega)
    have run : ∀ M3, f_X11_adds m 89 (nI (tq b n p)) 0 (mgR (some t)) M2 = some ((), M3) → f_X11_readName0 (m + 1) 89 (nI (tq b n p)) (nI (te b n p - tq b n p)) M2 = some ((), M3) := by
      intro M3 ea
      rw [e0]
      unfold T_X11_readName0_0
      simp (disch := omega) only [↓reduceIte, ↓gd_pos hO2, ↓bnd2_of (show cal (m + 1) (fun zz => f_X11_meant zz 89 (nI (te b n p - tq b n p)) M2) = _ from em), hge, ↓bnd2_of (show cal (m + 1) (fun zz => f_X11_adds zz 89 (nI (tq b n p)) 0 (mgR (some t)) M2) = _ from ea)]
    refine ⟨fun e he => ?_, fun t' q hl' => ?_⟩
    · rw [rdN_s] at he
      split at he
      · rename_i h120
        cases he
        have ea := (ad (nI (tq b n p)) 0 (mgR (some t))).2.1 m30 (by omega)
        exact ⟨_, run _ ea, hok.fail F2 (fun a k q => by unfold SP at q; omega) (kd := 4) (pl := tq b n p) (by omega)⟩
      · cases he
    · cases q
      obtain ⟨M3, ea, F3, P3⟩ := hA hl' (mgR (some t))
      exact ⟨M3, run M3 ea, F3, P3.done (by omega) (by omega) ⟨fun _ => rfl, fun q => by unfold tf at q; omega, fun q => (q rfl).elim⟩ (fun q => by unfold tf at q; omega)⟩
end RRW
