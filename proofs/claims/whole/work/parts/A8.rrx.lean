/-! READING A TERM in the reference: blocks, formulas -/
section RRX
variable {M M1 M2 M3 : Mem} {b : Nat → Nat} {n : Nat} {c c1 : Nat} {H : List (Nat × Fm)} {sc : List Nat} {l : List (Nat × Tm)} {pls : List Nat} {p : Nat}
theorem b87_p (k : Nat) (y x : Int32) (h : ¬ (x = 1 ∨ x = 6 ∨ x = 7 ∨ x = 9)) : lpR k 87 [.ref 89, .int y, .int x] M = lpR k 125 [.ref 89, .int x] M := by
  refine (ge_X11_readTerm_87 (r_X11_readTerm k) (k + 1) 89 y x M).trans ?_
  unfold T_X11_readTerm_87
  rw [if_neg (fun z => h (Or.inl z)), if_neg (fun z => h (Or.inr (Or.inl z))), if_neg (fun z => h (Or.inr (Or.inr (Or.inl z)))), if_neg (fun z => h (Or.inr (Or.inr (Or.inr z))))]
theorem b87_f (hW : Wd M) (k : Nat) {m : Nat} (hm : m < 400) {x v : Int32} (h : x = 1 ∨ x = 6 ∨ x = 7 ∨ x = 9) (ef : f_X11_formulaRead k 89 M = some (v, M1)) (hW1 : Wd M1) : lpR k 87 [.ref 89, .int (nI m), .int x] M = lpR k 125 [.ref 89, .int x] (wI M1 106 m v) := by
  have hO := fO_R hW
  have hA := fA_R hW1 (a := 106) (by omega) (s_106 hW1) hm (by omega)
  have z1 : (nI m).toNatClampNeg = m := nI_z (by omega)
  refine (ge_X11_readTerm_87 (r_X11_readTerm k) (k + 1) 89 (nI m) x M).trans ?_
  unfold T_X11_readTerm_87
  rcases h with q | q | q | q <;> subst q <;> simp only [↓reduceIte, ↓gd_pos hO, ↓bnd_of (r_89_21 hW), ↓bnd2_of (show cal (k + 1) (fun zz => f_X11_formulaRead zz 89 M) = _ from ef), ↓gd_pos hA, z1, show ((6 : Int32) = 1) = False from eq_false (by decide), show ((7 : Int32) = 1) = False from eq_false (by decide), show ((7 : Int32) = 6) = False from eq_false (by decide), show ((9 : Int32) = 1) = False from eq_false (by decide), show ((9 : Int32) = 6) = False from eq_false (by decide), show ((9 : Int32) = 7) = False from eq_false (by decide)]
theorem b125 (hW : Wd M) (k : Nat) (x : Int32) (e : f_X11_readTerm k 89 M = some ((), M1)) (hW1 : Wd M1) : (x = 1 → lpR k 125 [.ref 89, .int x] M = lpR k 145 [.ref 89, .int x] (wI M1 89 39 (M1.2.2.1 89 39 - 1))) ∧ (¬ x = 1 → lpR k 125 [.ref 89, .int x] M = lpR k 145 [.ref 89, .int x] M1) := by
  have hO := fO_R hW
  have hO1 := fO_R hW1
  have E : r_X11_readTerm k 0 [.ref 89] M = some ((), M1) := e
  constructor
  · intro h
    refine (ge_X11_readTerm_125 (r_X11_readTerm k) (k + 1) 89 x M).trans ?_
    unfold T_X11_readTerm_125
    simp only [↓reduceIte, ↓gd_pos hO, ↓gd_pos hO1, ↓bnd2_of E, h]
  · intro h
    refine (ge_X11_readTerm_125 (r_X11_readTerm k) (k + 1) 89 x M).trans ?_
    unfold T_X11_readTerm_125
    simp only [↓reduceIte, ↓gd_pos hO, ↓bnd2_of E, h]
theorem b145 (hW : Wd M) (k : Nat) (x : Int32) : ((x = 2 ∨ x = 3) → f_X11_readTerm k 89 M = some ((), M1) → lpR k 145 [.ref 89, .int x] M = lpR k 164 [.ref 89, .int x, .int 0] M1) ∧ (¬ (x = 2 ∨ x = 3) → lpR k 145 [.ref 89, .int x] M = lpR k 164 [.ref 89, .int x, .int 0] M) := by
  have hO := fO_R hW
  constructor
  · intro h e
    have E : r_X11_readTerm k 0 [.ref 89] M = some ((), M1) := e
    refine (ge_X11_readTerm_145 (r_X11_readTerm k) (k + 1) 89 x M).trans ?_
    unfold T_X11_readTerm_145
    rcases h with h | h <;> subst h <;> simp only [↓reduceIte, ↓gd_pos hO, ↓bnd2_of E, show ((3 : Int32) = 2) = False from eq_false (by decide)]
  · intro h
    refine (ge_X11_readTerm_145 (r_X11_readTerm k) (k + 1) 89 x M).trans ?_
    unfold T_X11_readTerm_145
    rw [if_neg (fun z => h (Or.inl z)), if_neg (fun z => h (Or.inr z))]
theorem b164_e (k : Nat) (x y : Int32) (h : ¬ x = 8 ∨ 2 ≤ y) : lpR k 164 [.ref 89, .int x, .int y] M = some ((), M) := by
  refine (ge_X11_readTerm_164 (r_X11_readTerm k) (k + 1) 89 x y M).trans ?_
  unfold T_X11_readTerm_164
  by_cases h2 : 2 ≤ y
  · rw [if_pos h2]
  · rw [if_neg h2, if_neg (h.resolve_right h2)]
theorem b164_s (hW : Wd M) (k : Nat) {j : Nat} (hj : j < 2) (h0 : M.2.2.1 89 30 = 0) (et : f_X11_tells0 k 89 M = some ((), M1)) (hW1 : Wd M1) (er : f_X11_readTerm k 89 M1 = some ((), M2)) (hW2 : Wd M2) : lpR k 164 [.ref 89, .int 8, .int (nI j)] M = lpR k 164 [.ref 89, .int 8, .int (nI (j + 1))] (wI M2 89 39 (M2.2.2.1 89 39 - 1)) := by
  have hO := fO_R hW
  have hO1 := fO_R hW1
  have hO2 := fO_R hW2
  have E : r_X11_readTerm k 0 [.ref 89] M1 = some ((), M2) := er
  refine (ge_X11_readTerm_164 (r_X11_readTerm k) (k + 1) 89 8 (nI j) M).trans ?_
  unfold T_X11_readTerm_164
  have h2 : ((2 : Int32) ≤ nI j) = False := eq_false (fun q => by have := (nI_leI (a := 2) (by omega) (by omega)).mp q; omega)
  simp only [↓reduceIte, h2, ↓gd_pos hO, ↓gd_pos hO1, ↓gd_pos hO2, h0, ↓bnd2_of (show cal (k + 1) (fun zz => f_X11_tells0 zz 89 M) = _ from et), ↓bnd2_of E, nI_1]
theorem RrP.mvS {o : Nat} {g : Int32} (h : RrP M c b n H sc l pls o g p) {S : Nat → Nat → Prop} (hF : Fr S M M1) (hS : ∀ a k, S a k → (a = 89 ∧ (k = 29 ∨ k = 39)) ∨ a = 111 ∨ a = 112) {sc1 : List Nat} (hs : ScR M1 sc1) {q : Nat} (hq : M1.2.2.1 89 29 = nI q) (hqn : q ≤ n) : RrP M1 c b n H sc1 l pls o g q := by
  obtain ⟨hW, hX, hT, hH, ⟨h24, hR, hD, h5, h6⟩, ⟨hp1, hp2⟩, -, -, h30, h31⟩ := h
  obtain ⟨T1, d1⟩ := tabR_mv hT hF (fun q => by have := hS _ _ q; omega) (fun a k q => by have := hS _ _ q; omega)
  exact ⟨hF.Wd hW, hX.fr hF (fun q => by have := hS _ _ q; omega) (fun k q => by have := hS _ _ q; omega), T1, hH.mv hF (fun q => by have := hS _ _ q; omega) (fun a k q => by have := hS _ _ q; omega) (fun i _ => d1 i) (Nat.le_refl _), ⟨(hF.int (fun q => by have := hS _ _ q; omega)).trans h24, hR.mv (fun i _ => hF.int (fun q => by have := hS _ _ q; omega)) (fun i _ => hF.int (fun q => by have := hS _ _ q; omega)) (fun i _ => d1 i) (Nat.le_refl _), hD, (hF.int (fun q => by have := hS _ _ q; omega)).trans h5, (hF.int (fun q => by have := hS _ _ q; omega)).trans h6⟩, ⟨hp1.mv hF (fun k q => by have := hS _ _ q; omega), hp2⟩, hs, ⟨hq, hqn⟩, (hF.int (fun q => by have := hS _ _ q; omega)).trans h30, (hF.int (fun q => by have := hS _ _ q; omega)).trans h31⟩
theorem RrS.mvS (h : RrS M c b n H sc l pls p) {S : Nat → Nat → Prop} (hF : Fr S M M1) (hS : ∀ a k, S a k → (a = 89 ∧ (k = 29 ∨ k = 39)) ∨ a = 111 ∨ a = 112) {sc1 : List Nat} (hs : ScR M1 sc1) {q : Nat} (hq : M1.2.2.1 89 29 = nI q) (hqn : q ≤ n) : RrS M1 c b n H sc1 l pls q := by
  obtain ⟨hW, hX, hT, hH, ⟨h24, hR, hD⟩, ⟨hp1, hp2⟩, -, -, h30, h31⟩ := h
  obtain ⟨T1, d1⟩ := tabR_mv hT hF (fun q => by have := hS _ _ q; omega) (fun a k q => by have := hS _ _ q; omega)
  exact ⟨hF.Wd hW, hX.fr hF (fun q => by have := hS _ _ q; omega) (fun k q => by have := hS _ _ q; omega), T1, hH.mv hF (fun q => by have := hS _ _ q; omega) (fun a k q => by have := hS _ _ q; omega) (fun i _ => d1 i) (Nat.le_refl _), ⟨(hF.int (fun q => by have := hS _ _ q; omega)).trans h24, hR.mv (fun i _ => hF.int (fun q => by have := hS _ _ q; omega)) (fun i _ => hF.int (fun q => by have := hS _ _ q; omega)) (fun i _ => d1 i) (Nat.le_refl _), hD⟩, ⟨hp1.mv hF (fun k q => by have := hS _ _ q; omega), hp2⟩, hs, ⟨hq, hqn⟩, (hF.int (fun q => by have := hS _ _ q; omega)).trans h30, (hF.int (fun q => by have := hS _ _ q; omega)).trans h31⟩
/-- one name fewer -/
theorem RrS.pop39 {nm : Nat} (h : RrS M c b n H (sc ++ [nm]) l pls p) : RrS (wI M 89 39 (M.2.2.1 89 39 - 1)) c b n H sc l pls p := by
  have hS := h.2.2.2.2.2.2.1
  have hp := h.2.2.2.2.2.2.2.1
  have e1 := hS.1
  have h24 := hS.2.1
  simp only [List.length_append, List.length_cons, List.length_nil] at e1 h24
  have F : Fr (fun a k => a = 89 ∧ k = 39) M (wI M 89 39 (M.2.2.1 89 39 - 1)) := Fr.refl.wI ⟨rfl, rfl⟩ _
  refine h.mvS F (fun a k q => by omega) ⟨?_, by omega, fun i hi => ?_⟩ (by simp [up2_if, hp.1]) hp.2
  · have : M.2.2.1 89 39 - 1 = nI sc.length := by
      rw [e1]
      exact pm_sub (sc.length + 1)
    simp [up2_if, this]
  · have := hS.2.2 i (by simp; omega)
    rw [List.getD_eq_getElem?_getD, List.getElem?_append_left hi, ← List.getD_eq_getElem?_getD] at this
    exact this.mv (F.int (by omega)) (fun _ _ => F.int (by omega))
set_option maxHeartbeats 1000000 in
/-- a formula is told -/
theorem ry_form {o : Nat} (h : RrP M c b n H sc l pls o (-1) p) (ho : tf o) (hl : l.length < 120) (hc0 : 0 < c) (hc : c + (n - p) ≤ 10000) (hlt : p < n → ¬ isLt (b p)) (k : Nat) : (∀ e, scan b n 30 p 1 = .inl e → ∃ M1, lpR (k + 45) 87 [.ref 89, .int (nI l.length), .int (nI (o - 1))] M = some ((), M1) ∧ RyF M c n p M1 e) ∧ (∀ w, scan b n 30 p 1 = .inr w → ∃ M1 c1, lpR (k + 45) 87 [.ref 89, .int (nI l.length), .int (nI (o - 1))] M = lpR (k + 45) 125 [.ref 89, .int (nI (o - 1))] M1 ∧ RyG M c n p M1 c1 w.2 ∧ RrS M1 c1 b n H sc (l ++ [(o, hdF w.1)]) pls w.2) := by
  have hP := h
  have hok := h.oks (by omega)
  obtain ⟨hW, hX, hT, hH, ⟨h24, hR, hD, h5, h6⟩, ⟨hp1, hp2⟩, hS, ⟨h29, hp⟩, h30, h31⟩ := h
  have hkd : nI (o - 1) = (1 : Int32) ∨ nI (o - 1) = (6 : Int32) ∨ nI (o - 1) = (7 : Int32) ∨ nI (o - 1) = (9 : Int32) := by
    unfold tf at ho
    rcases ho with rfl | rfl | rfl | rfl
    · exact Or.inl rfl
    · exact Or.inr (Or.inl rfl)
    · exact Or.inr (Or.inr (Or.inl rfl))
    · exact Or.inr (Or.inr (Or.inr rfl))
  have F0 : Fr (fun a k => a = 89 ∧ k = 34) M (wI M 89 34 0) := Fr.refl.wI ⟨rfl, rfl⟩ _
  obtain ⟨T0, d0⟩ := tabR_mv hT F0 (by omega) (fun a k q => by omega)
  have hW0 := F0.Wd hW
  have hr := rrf_main (b := b) (n := n) 30 (k + 44) 0 p c (wI M 89 34 0) (by omega) (by omega) hp hW0 (hX.fr F0 (by omega) (by omega)) (by simp [up2_if, h29]) (by simp [up2_if, h30]) (by simp [up2_if]; rfl) T0 (by omega)
  have efr := fr_eq hW (k + 44)
  have hSR : ∀ a k, SRR a k → SRy a k := fun a k q => by unfold SRR at q; unfold SRy SR; omega
  constructor
  · intro e he
    rw [he] at hr
    obtain ⟨-, M1, c1, x1, x2, x3, x4, x5, x6, x7, x8, x9⟩ := hr
    rw [x1] at efr
    have hW1 := x2.Wd hW0
    have hkd1 := scan_kd he
    have e1 := b87_f hW (k + 45) (m := l.length) (by omega) hkd efr hW1
    have hne : ¬ (wI M1 106 l.length 0).2.2.1 89 30 = 0 := by
      simp only [up2_if, Nat.reduceEqDiff, false_and, if_false, x3]
      intro q
      have := (nI_eq (b := 0) (by omega) (by omega)).mp q
      omega
    obtain ⟨M2, e2, F2⟩ := dd_125 (M := wI M1 106 l.length 0) (hW1.wI _ _ _) (k + 44) hne (nI (o - 1))
    refine ⟨M2, e1.trans e2, ?_⟩
    have hi : ∀ a, (95 ≤ a) → M1.2.2.1 a = M.2.2.1 a := fun a ha => by
      rw [x2.ints (fun k => by unfold SRR; omega), F0.ints (by omega)]
    have T2 : TabR (wI M1 106 l.length 0) c1 := x5
    have Fa : Fr SRy M (wI M1 106 l.length 0) := ((F0.mono (fun a k q => by unfold SRy; omega)).trans (x2.mono hSR)).wI (by unfold SRy; omega) _
    have base : RyF M c n p (wI M1 106 l.length 0) e := by
      refine ⟨Fa, by simp [up2_if, x3], by simp [up2_if, x4], by omega, c1, T2, x6, by omega, fun i hi => (x8 i hi).trans (d0 i), ?_⟩
      obtain ⟨m, m1, m2, m3⟩ := hok.2
      have hml : m = l.length + 1 := by
        rw [h24] at m2
        exact ((nI_eq (by omega) (by omega)).mp m2).symm
      refine ⟨m, m1, ?_, fun i him => ?_⟩
      · have : M1.2.2.1 89 24 = M.2.2.1 89 24 := (x2.int (by unfold SRR; omega)).trans (F0.int (by omega))
        simp [up2_if, this, m2]
      · by_cases e : i = l.length
        · subst e
          have hc1 : 0 < c1 := by omega
          refine Or.inr (Or.inr ⟨0, hc1, by simp [up2_if]; rfl, ?_⟩)
          rcases T2.cases hc1 with ⟨j, hj, -, -, -, e4⟩ | ⟨j, a, b, -, -, ha, -⟩
          · rw [e4]
            show 1 ≤ 60
            omega
          · omega
        · simp only [up2_if, Nat.reduceEqDiff, false_and, if_false, e, and_false, hi 105 (by omega), hi 106 (by omega)]
          rcases m3 i him with z | z | ⟨v, z1, z2, z3⟩
          · exact Or.inl z
          · exact Or.inr (Or.inl z)
          · refine Or.inr (Or.inr ⟨v, by omega, z2, ?_⟩)
            have : dR (wI M1 106 l.length 0) v = dR M v := (x8 v z1).trans (d0 v)
            rw [this]
            exact z3
    exact base.dd hc0 (F2.mono (fun a k q => by unfold SDd; omega)) (fun m _ _ i _ => Or.inl (F2.int (by omega)))
  · intro w hw
    rw [hw] at hr
    obtain ⟨f, M1, c1, x1, x2, x3, x4, x5, x6, x7, x8, x9, x10, x11, x12⟩ := hr
    rw [x1] at efr
    have hW1 := x2.Wd hW0
    have e1 := b87_f hW (k + 45) (m := l.length) (by omega) hkd efr hW1
    have hby := scan_bytes0 (l := w.1) (q := w.2) hp hlt hw
    have hq := (scan_chk (l := w.1) (q := w.2) hp hw).2
    have hF1 : Fr (fun a k => SRR a k ∨ (a = 106 ∧ k = l.length)) (wI M 89 34 0) (wI M1 106 l.length (nI f)) := (x2.mono (fun a k q => Or.inl q)).wI (Or.inr ⟨rfl, rfl⟩) _
    have F3 : Fr (fun a k => (a = 89 ∧ k = 34) ∨ SRR a k ∨ (a = 106 ∧ k = l.length)) M (wI M1 106 l.length (nI f)) := (F0.mono (fun a k q => Or.inl q)).trans (hF1.mono (fun a k q => Or.inr q))
    have hS3 : ∀ a k, ((a = 89 ∧ k = 34) ∨ SRR a k ∨ (a = 106 ∧ k = l.length)) → (a = 89 ∧ (k = 7 ∨ k = 29 ∨ k = 30 ∨ k = 31 ∨ k = 34)) ∨ (90 ≤ a ∧ a ≤ 94) ∨ (a = 106 ∧ k = l.length) := fun a k q => by unfold SRR at q; omega
    have d3 : ∀ i, i < c → dR (wI M1 106 l.length (nI f)) i = dR M i := fun i hi => (x10 i hi).trans (d0 i)
    have T3 : TabR (wI M1 106 l.length (nI f)) c1 := x7
    have hfd : dR (wI M1 106 l.length (nI f)) f = hdF w.1 := (hdF_is x12).symm
    refine ⟨wI M1 106 l.length (nI f), c1, e1, ⟨F3.mono (fun a k q => by have := hS3 _ _ q; unfold SRy SR; omega), x8, by omega, d3⟩, ?_⟩
    have P3 : RrP (wI M1 106 l.length (nI f)) c1 b n H sc l pls o (nI f) w.2 := by
      refine ⟨hW1.wI _ _ _, hX.fr F3 (fun q => by have := hS3 _ _ q; omega) (fun k q => by have := hS3 _ _ q; omega), T3, hH.mv F3 (fun q => by have := hS3 _ _ q; omega) (fun a k q => by have := hS3 _ _ q; omega) d3 x8, ⟨(F3.int (fun q => by have := hS3 _ _ q; omega)).trans h24, hR.mv (fun i _ => F3.int (fun q => by have := hS3 _ _ q; omega)) (fun i hi => F3.int (fun q => by have := hS3 _ _ q; omega)) d3 x8, hD, (F3.int (fun q => by have := hS3 _ _ q; omega)).trans h5, by simp [up2_if]⟩, ⟨hp1.mv F3 (fun k q => by have := hS3 _ _ q; omega), hp2⟩, hS.mv F3 (fun q => by have := hS3 _ _ q; omega) (fun k q => by have := hS3 _ _ q; omega) (fun k q => by have := hS3 _ _ q; omega), ⟨by simp [up2_if, x5], hq⟩, by simp [up2_if, x3], ?_⟩
      have : (wI M 89 34 0).2.2.1 89 31 = -1 := by simp [up2_if, h31]
      simp [up2_if, x4.trans this]
    refine P3.done (by unfold tf at ho; omega) (by unfold tf at ho; omega) ⟨fun q => by unfold tf at ho; replace q : o = 1 := q; omega, fun _ => ⟨f, x11, rfl, hfd⟩, fun _ q => (q ho).elim⟩ (fun _ => ?_)
    exact hdF_w60 hp hw
end RRX
