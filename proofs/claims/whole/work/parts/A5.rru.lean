/-! READING A TERM in the reference: names that are told, formulas, what happens behind a fault -/
section RRU
variable {M M1 : Mem} {b : Nat → Nat} {n : Nat} {c : Nat} {H : List (Nat × Fm)} {sc : List Nat}
def STl (a k : Nat) : Prop := (a = 89 ∧ (k = 29 ∨ k = 39)) ∨ a = 111 ∨ a = 112
/-- letters are copied -/
theorem tl_57 (hX : TxR M b n) {q d a : Nat} (hq : M.2.2.1 89 29 = nI q) (hqd : q + d ≤ n) (hd : d ≤ 4) (hl : ∀ i, i < d → isLt (b (q + i))) (ha : a < 24) (k : Nat) : ∀ z i, i + z = d → ∀ M1, Fr (fun x y => x = 111 ∧ 4 * a ≤ y) M M1 → Wd M1 → M1.2.2.1 89 39 = nI a → (∀ u, u < i → M1.2.2.1 111 (4 * a + u) = nI (b (q + u))) → ∃ M2, lp (st_X11_tells0 k) (57, [.ref 89, .int (nI d), .int (nI i)], M1) = some ((), wI (wI (wI M2 112 a (nI d)) 89 39 (nI (a + 1))) 89 29 (nI (q + d))) ∧ Fr (fun x y => x = 111 ∧ 4 * a ≤ y) M M2 ∧ ∀ u, u < d → M2.2.2.1 111 (4 * a + u) = nI (b (q + u)) := by
  have h6 := hX.2.1
  intro z
  induction z with
  | zero =>
    intro i hi M1 F1 hW1 h39 hu
    have e : i = d := by omega
    subst e
    refine ⟨M1, ?_, F1, hu⟩
    have hO := fO_R hW1
    have hA := fA_R hW1 (a := 112) (by omega) (s_112 hW1) ha (by omega)
    have h29 : M1.2.2.1 89 29 = nI q := (F1.int (by omega)).trans hq
    refine (ge_X11_tells0_57 k 89 (nI i) (nI i) M1).trans ?_
    have ha24 : a < 24 := ha
    simp (disch := omega) only [T_X11_tells0_57, nI_le_, Nat.le_refl, if_true, W_89 hW1, gd_true, fO, fA, ex_in, bnd_s, Nat.reduceLT, Nat.reduceEqDiff, true_and, and_self, and_false, h39, h29, up2_if, false_and, if_false, nI_z, vp_iff, ha24, nI_1, nI_add]
  | succ z ih =>
    intro i hi M1 F1 hW1 h39 hu
    have h29 : M1.2.2.1 89 29 = nI q := (F1.int (by omega)).trans hq
    have hO := fO_R hW1
    have hb := hX.2.2 (q + i) (by omega)
    have hlt := hl i (by omega)
    have e109 : M1.2.2.1 109 (q + i) = nI (b (q + i)) := by
      rw [F1.int (by omega), hb.2]
      exact sb_lo _ (by unfold isLt at hlt; omega)
    have s1 : lp (st_X11_tells0 k) (57, [.ref 89, .int (nI d), .int (nI i)], M1) = lp (st_X11_tells0 k) (57, [.ref 89, .int (nI d), .int (nI (i + 1))], wI M1 111 (4 * a + i) (nI (b (q + i)))) := by
      refine (ge_X11_tells0_57 k 89 (nI d) (nI i) M1).trans ?_
      have e4 : (4 : Int32) * nI a + nI i = nI (4 * a + i) := by
        rw [show (4 : Int32) = nI 4 from rfl]
        show Int32.ofNat 4 * Int32.ofNat a + Int32.ofNat i = Int32.ofNat (4 * a + i)
        rw [← Int32.ofNat_mul, ← Int32.ofNat_add]
      have hqi : q + i < 600 := by omega
      have hai : 4 * a + i < 96 := by omega
      simp (disch := omega) only [T_X11_tells0_57, nI_le_, W_89 hW1, gd_true, fO, fA, ex_in, bnd_s, Nat.reduceLT, true_and, and_self, h39, h29, nI_add, nI_z, vp_iff, hqi, hai, e4, e109, nI_1]
      rw [if_neg (by omega)]
    obtain ⟨M2, e2, F2, u2⟩ := ih (i + 1) (by omega) (wI M1 111 (4 * a + i) (nI (b (q + i)))) (F1.wI ⟨rfl, by omega⟩ _) (hW1.wI _ _ _) (by simp [up2_if, h39]) (fun u hu' => by
      by_cases e : u = i
      · subst e
        simp [up2_if]
      · have ne : 4 * a + u ≠ 4 * a + i := by omega
        simp only [up2_if, ne, and_false, if_false]
        exact hu u (by omega))
    exact ⟨M2, s1.trans e2, F2, u2⟩
set_option maxHeartbeats 1000000 in
theorem rx_tells0 (hW : Wd M) (hX : TxR M b n) {p : Nat} (hp : p ≤ n) (h29 : M.2.2.1 89 29 = nI p) (hS : ScR M sc) (k : Nat) : (¬ M.2.2.1 89 30 = 0 → f_X11_tells0 (k + 6) 89 M = some ((), M)) ∧ (M.2.2.1 89 30 = 0 → (∀ e, rdB b n p sc = .inl e → ∃ M1, f_X11_tells0 (k + 6) 89 M = some ((), wI (wI M1 89 30 (nI e.1)) 89 31 (nI e.2)) ∧ Fr SP M M1) ∧ (∀ u, rdB b n p sc = .inr u → ∃ M1, f_X11_tells0 (k + 6) 89 M = some ((), M1) ∧ Fr STl M M1 ∧ M1.2.2.1 89 29 = nI u.2 ∧ ScR M1 (sc ++ [u.1]))) := by
  have hO := fO_R hW
  have h6 := hX.2.1
  have h24 := hS.2.1
  have hle := tq_le b n p hp
  constructor
  · intro h
    refine (ge_X11_tells0_0 (k + 6) 89 M).trans ?_
    unfold T_X11_tells0_0
    simp only [↓reduceIte, ↓gd_pos hO, h]
  · intro h
    obtain ⟨M5, F5, g5, n1, n2⟩ := rx_nameHere hW hX k h29 hp
    have hW5 := F5.Wd hW
    have hO5 := fO_R hW5
    have h5 : M5.2.2.1 89 30 = 0 := (F5.int (by unfold SP; omega)).trans h
    have hS5 : ScR M5 sc := hS.mv F5 (by unfold SP; omega) (fun k => by unfold SP; omega) (fun k => by unfold SP; omega)
    have hX5 : TxR M5 b n := hX.fr F5 (by unfold SP; omega) (fun k => by unfold SP; omega)
    obtain ⟨m, hm⟩ : ∃ m, m = k + 5 := ⟨_, rfl⟩
    rw [← hm] at n1 n2
    rw [show k + 6 = m + 1 by omega]
    by_cases hN : isN b n p
    · have e1 := n1 hN
      have hne : (nI (te b n p - tq b n p) = (0 : Int32)) = False := eq_false (fun q => by
        have := (nI_eq (b := 0) (by omega) (by omega)).mp q
        have := hN.1
        omega)
      have hrd : rdB b n p sc = if 24 ≤ sc.length then .inl (4, tq b n p) else .inr (nmAt b n p, te b n p) := itc_pos hN
      by_cases h4 : 24 ≤ sc.length
      · rw [if_pos h4] at hrd
        rw [hrd]
        refine ⟨fun e he => ?_, fun u hu => (by cases hu)⟩
        cases he
        have ef := (rx_fails hW5 m 4 (nI (tq b n p))).1 h5
        have E : cal (m + 1) (fun zz => f_X11_fails zz 89 4 (M5.2.2.1 89 29) M5) = some ((), wI (wI M5 89 30 4) 89 31 (nI (tq b n p))) := by
          rw [cal_s, g5]
          exact ef
        have hW6 : Wd (wI (wI M5 89 30 4) 89 31 (nI (tq b n p))) := (hW5.wI _ _ _).wI _ _ _
        refine ⟨M5, ?_, F5⟩
        refine (ge_X11_tells0_0 (m + 1) 89 M).trans ?_
        unfold T_X11_tells0_0
        simp (disch := omega) only [↓reduceIte, ↓gd_pos hO, h, ↓bnd2_of (show cal (m + 1) (fun zz => f_X11_nameHere zz 89 M) = _ from e1), hne, ↓gd_pos hO5, hS5.1, show (24 : Int32) = nI 24 from rfl, nI_eq_, eq_true (show sc.length = 24 by omega), ↓bnd2_of E, ↓gd_pos (fO_R hW6), up2_if, Nat.reduceEqDiff, and_false, and_self, if_false, if_true, show ((4 : Int32) = 0) = False from eq_false (by decide)]
        rfl
      · rw [if_neg h4] at hrd
        rw [hrd]
        refine ⟨fun e he => (by cases he), fun u hu => ?_⟩
        cases hu
        have hok := hN.ok
        obtain ⟨M6, e6, F6, u6⟩ := tl_57 hX5 g5 (d := te b n p - tq b n p) (by omega) hN.2.1 (fun i hi => hok.2.2 i hi) (a := sc.length) (by omega) (m + 1) (te b n p - tq b n p) 0 (by omega) M5 Fr.refl hW5 hS5.1 (fun u hu => by omega)
        rw [show tq b n p + (te b n p - tq b n p) = te b n p by omega] at e6
        have FT : Fr STl M (wI (wI (wI M6 112 sc.length (nI (te b n p - tq b n p))) 89 39 (nI (sc.length + 1))) 89 29 (nI (te b n p))) := ((((F5.mono (fun a k q => by unfold SP at q; unfold STl; omega)).trans (F6.mono (fun a k q => by unfold STl; omega))).wI (by unfold STl; omega) _).wI (by unfold STl; omega) _).wI (by unfold STl; omega) _
        refine ⟨_, ?_, FT, by simp [up2_if], ?_⟩
        · rw [← e6]
          refine (ge_X11_tells0_0 (m + 1) 89 M).trans ?_
          unfold T_X11_tells0_0
          simp (disch := omega) only [↓reduceIte, ↓gd_pos hO, h, ↓bnd2_of (show cal (m + 1) (fun zz => f_X11_nameHere zz 89 M) = _ from e1), hne, ↓gd_pos hO5, hS5.1, show (24 : Int32) = nI 24 from rfl, nI_eq_, eq_false (show ¬ sc.length = 24 by omega), h5]
          rfl
        · refine ⟨by simp [up2_if], by simp; omega, fun i hi => ?_⟩
          simp only [List.length_append, List.length_cons, List.length_nil] at hi
          by_cases q : i < sc.length
          · rw [List.getD_eq_getElem?_getD, List.getElem?_append_left q, ← List.getD_eq_getElem?_getD]
            have ne : i ≠ sc.length := by omega
            refine (hS5.2.2 i q).mv ?_ (fun j hj => ?_)
            · simp [up2_if, ne]
              exact F6.int (by omega)
            · simp [up2_if]
              exact F6.int (by omega)
          · have e : i = sc.length := by omega
            subst e
            rw [List.getD_eq_getElem?_getD, List.getElem?_append_right (Nat.le_refl _), Nat.sub_self]
            refine ⟨fun i => b (tq b n p + i), te b n p - tq b n p, hok, rfl, by simp [up2_if], fun j hj => ?_⟩
            simp [up2_if]
            exact u6 j hj
    · have e1 := n2 hN
      have hrd : rdB b n p sc = .inl (1, tq b n p) := itc_neg hN
      rw [hrd]
      refine ⟨fun e he => ?_, fun u hu => (by cases hu)⟩
      cases he
      have ef := (rx_fails hW5 m 1 (nI (tq b n p))).1 h5
      have E : cal (m + 1) (fun zz => f_X11_fails zz 89 1 (M5.2.2.1 89 29) M5) = some ((), wI (wI M5 89 30 1) 89 31 (nI (tq b n p))) := by
        rw [cal_s, g5]
        exact ef
      have hW6 : Wd (wI (wI M5 89 30 1) 89 31 (nI (tq b n p))) := (hW5.wI _ _ _).wI _ _ _
      refine ⟨M5, ?_, F5⟩
      refine (ge_X11_tells0_0 (m + 1) 89 M).trans ?_
      unfold T_X11_tells0_0
      simp (disch := omega) only [↓reduceIte, ↓gd_pos hO, h, ↓bnd2_of (show cal (m + 1) (fun zz => f_X11_nameHere zz 89 M) = _ from e1), ↓gd_pos hO5, ↓bnd2_of E, ↓gd_pos (fO_R hW6), up2_if, Nat.reduceEqDiff, and_false, and_self, if_false, if_true, show ((1 : Int32) = 0) = False from eq_false (by decide)]
      rfl
/-- a formula -/
theorem fr_eq (hW : Wd M) (k : Nat) : f_X11_formulaRead (k + 1) 89 M = f_X11_readFormula k 89 (wI M 89 34 0) := by
  have hO := fO_R hW
  unfold f_X11_formulaRead b_X11_formulaRead T_X11_formulaRead_0
  simp only [↓gd_pos hO, cal_s]
  cases f_X11_readFormula k 89 (wI M 89 34 0) with
  | none => rfl
  | some r => rfl
/-! behind a fault nothing more happens but some writing where nobody looks -/
def SDd (a k : Nat) : Prop := (a = 89 ∧ (k = 34 ∨ k = 39)) ∨ a = 106
theorem rt_eq (k : Nat) (M : Mem) : f_X11_readTerm (k + 1) 89 M = T_X11_readTerm_0 (fun c l M => lp (st_X11_readTerm (r_X11_readTerm k) (k + 1)) (c, l, M)) (fun v M => some (v, M)) none (r_X11_readTerm k) (k + 1) 89 M := ge_X11_readTerm_0 (r_X11_readTerm k) (k + 1) 89 M
theorem dd_rt (hW : Wd M) (k : Nat) (h : ¬ M.2.2.1 89 30 = 0) : f_X11_readTerm (k + 1) 89 M = some ((), M) := by
  have hO := fO_R hW
  rw [rt_eq]
  unfold T_X11_readTerm_0
  simp only [↓reduceIte, ↓gd_pos hO, h]
noncomputable abbrev lpR (k pc : Nat) (l : List Value) (M : Mem) : Option (Unit × Mem) := lp (st_X11_readTerm (r_X11_readTerm k) (k + 1)) (pc, l, M)
theorem dd_164 (hW : Wd M) (k : Nat) (h : ¬ M.2.2.1 89 30 = 0) (x y : Int32) : lpR k 164 [.ref 89, .int x, .int y] M = some ((), M) := by
  have hO := fO_R hW
  refine (ge_X11_readTerm_164 (r_X11_readTerm k) (k + 1) 89 x y M).trans ?_
  unfold T_X11_readTerm_164
  simp only [↓gd_pos hO, h, if_false, ite_self]
theorem dd_145 (hW : Wd M) (k : Nat) (h : ¬ M.2.2.1 89 30 = 0) (x : Int32) : lpR (k + 1) 145 [.ref 89, .int x] M = some ((), M) := by
  have hO := fO_R hW
  have e := dd_rt hW k h
  have E : r_X11_readTerm (k + 1) 0 [.ref 89] M = some ((), M) := e
  refine (ge_X11_readTerm_145 (r_X11_readTerm (k + 1)) (k + 1 + 1) 89 x M).trans ?_
  have e2 := dd_164 hW (k + 1) h x 0
  unfold T_X11_readTerm_145
  simp only [↓gd_pos hO, ↓bnd2_of E]
  rw [show lp (st_X11_readTerm (r_X11_readTerm (k + 1)) (k + 1 + 1)) (164, [.ref 89, .int x, .int 0], M) = some ((), M) from e2]
  simp only [ite_self]
theorem dd_125 (hW : Wd M) (k : Nat) (h : ¬ M.2.2.1 89 30 = 0) (x : Int32) : ∃ M1, lpR (k + 1) 125 [.ref 89, .int x] M = some ((), M1) ∧ Fr (fun a k => a = 89 ∧ k = 39) M M1 := by
  have hO := fO_R hW
  have e := dd_rt hW k h
  have E : r_X11_readTerm (k + 1) 0 [.ref 89] M = some ((), M) := e
  by_cases q : x = 1
  · have hW2 : Wd (wI M 89 39 (M.2.2.1 89 39 - 1)) := hW.wI _ _ _
    have e2 := dd_145 hW2 k (by simp [up2_if, h]) x
    refine ⟨wI M 89 39 (M.2.2.1 89 39 - 1), ?_, Fr.refl.wI ⟨rfl, rfl⟩ _⟩
    rw [← e2]
    refine (ge_X11_readTerm_125 (r_X11_readTerm (k + 1)) (k + 1 + 1) 89 x M).trans ?_
    unfold T_X11_readTerm_125
    simp only [↓reduceIte, ↓gd_pos hO, ↓bnd2_of E, q]
  · have e2 := dd_145 hW k h x
    refine ⟨M, ?_, Fr.refl⟩
    rw [← e2]
    refine (ge_X11_readTerm_125 (r_X11_readTerm (k + 1)) (k + 1 + 1) 89 x M).trans ?_
    unfold T_X11_readTerm_125
    simp only [↓reduceIte, ↓gd_pos hO, ↓bnd2_of E, q]
theorem dd_87 (hW : Wd M) (k : Nat) (h : ¬ M.2.2.1 89 30 = 0) {m : Nat} (hm : m < 400) (x : Int32) : ∃ M1, lpR (k + 2) 87 [.ref 89, .int (nI m), .int x] M = some ((), M1) ∧ Fr SDd M M1 ∧ ∀ i, M1.2.2.1 106 i = M.2.2.1 106 i ∨ M1.2.2.1 106 i = 0 := by
  have hO := fO_R hW
  have hW1 : Wd (wI M 89 34 0) := hW.wI _ _ _
  have ef : f_X11_formulaRead (k + 2) 89 M = some (0, wI M 89 34 0) := by
    rw [fr_eq hW (k + 1), rrf_wrong hW1 k (by simp [up2_if, h])]
  have hA := fA_R hW1 (a := 106) (by omega) (s_106 hW1) hm (by omega)
  have hW2 : Wd (wI (wI M 89 34 0) 106 m 0) := hW1.wI _ _ _
  have h2 : ¬ (wI (wI M 89 34 0) 106 m 0).2.2.1 89 30 = 0 := by simp [up2_if, h]
  have z1 : (nI m).toNatClampNeg = m := nI_z (by omega)
  obtain ⟨M3, e3, F3⟩ := dd_125 hW2 (k + 1) h2 x
  obtain ⟨M4, e4, F4⟩ := dd_125 hW (k + 1) h x
  by_cases q : x = 1 ∨ x = 6 ∨ x = 7 ∨ x = 9
  · refine ⟨M3, ?_, ((Fr.refl.wI (by unfold SDd; omega) _).wI (by unfold SDd; omega) _).trans (F3.mono (fun a k q => by unfold SDd; omega)), fun i => ?_⟩
    rotate_left
    · rw [F3.int (by omega)]
      by_cases e : i = m
      · subst e
        right
        simp [up2_if]
      · left
        simp [up2_if, e]
    rw [← e3]
    refine (ge_X11_readTerm_87 (r_X11_readTerm (k + 2)) (k + 2 + 1) 89 (nI m) x M).trans ?_
    obtain ⟨m', hm'⟩ : ∃ m', m' = k + 2 := ⟨_, rfl⟩
    rw [← hm'] at ef
    show T_X11_readTerm_87 _ _ none (r_X11_readTerm (k + 2)) (k + 2 + 1) 89 (nI m) x M = lp (st_X11_readTerm (r_X11_readTerm (k + 2)) (k + 2 + 1)) (125, [.ref 89, .int x], wI (wI M 89 34 0) 106 m 0)
    rw [show k + 2 = m' by omega]
    unfold T_X11_readTerm_87
    rcases q with q | q | q | q <;> subst q <;> simp only [↓reduceIte, ↓gd_pos hO, ↓bnd_of (r_89_21 hW), ↓bnd2_of (show cal (m' + 1) (fun zz => f_X11_formulaRead zz 89 M) = _ from ef), ↓gd_pos hA, z1, show ((6 : Int32) = 1) = False from eq_false (by decide), show ((7 : Int32) = 1) = False from eq_false (by decide), show ((7 : Int32) = 6) = False from eq_false (by decide), show ((9 : Int32) = 1) = False from eq_false (by decide), show ((9 : Int32) = 6) = False from eq_false (by decide), show ((9 : Int32) = 7) = False from eq_false (by decide)]
  · refine ⟨M4, ?_, F4.mono (fun a k q => by unfold SDd; omega), fun i => Or.inl (F4.int (by omega))⟩
    rw [← e4]
    refine (ge_X11_readTerm_87 (r_X11_readTerm (k + 2)) (k + 2 + 1) 89 (nI m) x M).trans ?_
    unfold T_X11_readTerm_87
    rw [if_neg (fun z => q (Or.inl z)), if_neg (fun z => q (Or.inr (Or.inl z))), if_neg (fun z => q (Or.inr (Or.inr (Or.inl z)))), if_neg (fun z => q (Or.inr (Or.inr (Or.inr z))))]
end RRU
