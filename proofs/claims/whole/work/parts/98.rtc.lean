/-! READING A TERM in the class: pieces -/
def PlC (M : Mem) (P : List Nat) : Prop := M.2.2.1 14 6 = nI P.length ∧ P.length ≤ 854 ∧ ∀ i x, P[i]? = some x → M.2.2.1 21 i = nI x
def ScC (M : Mem) (sc : List Nat) : Prop := M.2.2.1 14 8 = nI sc.length ∧ sc.length ≤ 24 ∧ ∀ i, i < sc.length → M.2.2.1 22 i = nI (sc.getD i 0) ∧ sc.getD i 0 < 2147483648
def PcC (M : Mem) (pls : List Nat) : Prop := ∀ i x, pls[i]? = some x → M.2.2.1 23 i = nI x
def SPl (a k : Nat) : Prop := a = 21 ∨ (a = 14 ∧ k = 6)
theorem get_app {α : Type} {l : List α} {x : α} {i : Nat} {y : α} (h : (l ++ [x])[i]? = some y) : (i < l.length ∧ l[i]? = some y) ∨ (i = l.length ∧ y = x) := by
  by_cases q : i < l.length
  · rw [List.getElem?_append_left q] at h
    exact Or.inl ⟨q, h⟩
  · rw [List.getElem?_append_right (by omega)] at h
    by_cases e : i = l.length
    · rw [e, Nat.sub_self] at h
      cases h
      exact Or.inr ⟨e, rfl⟩
    · obtain ⟨j, hj⟩ : ∃ j, i - l.length = j + 1 := ⟨i - l.length - 1, by omega⟩
      rw [hj] at h
      cases h
section RTC
variable {M M1 : Mem} {b : Nat → Nat} {n : Nat}
theorem PlC.mv {P : List Nat} (h : PlC M P) {S : Nat → Nat → Prop} (hF : Fr S M M1) (h1 : ¬ S 14 6) (h2 : ∀ k, ¬ S 21 k) : PlC M1 P := ⟨(hF.int h1).trans h.1, h.2.1, fun i x q => (hF.int (h2 i)).trans (h.2.2 i x q)⟩
theorem ScC.mv {sc : List Nat} (h : ScC M sc) {S : Nat → Nat → Prop} (hF : Fr S M M1) (h1 : ¬ S 14 8) (h2 : ∀ k, ¬ S 22 k) : ScC M1 sc := ⟨(hF.int h1).trans h.1, h.2.1, fun i q => ⟨(hF.int (h2 i)).trans (h.2.2 i q).1, (h.2.2 i q).2⟩⟩
theorem PcC.mv {pls : List Nat} (h : PcC M pls) {S : Nat → Nat → Prop} (hF : Fr S M M1) (h2 : ∀ k, ¬ S 23 k) : PcC M1 pls := fun i x q => (hF.int (h2 i)).trans (h i x q)
theorem c_push (hW : Wd M) {P : List Nat} (hP : PlC M P) (hl : P.length < 854) (k : Nat) (x : Nat) : ∃ M1, f_X6_push k 14 (nI x) M = some ((), M1) ∧ Fr SPl M M1 ∧ PlC M1 (P ++ [x]) := by
  have e : aLen M 21 = some 854 := by simp [aLen, W_14 hW]
  refine ⟨wI (wI M 21 P.length (nI x)) 14 6 (nI (P.length + 1)), ?_, (Fr.refl.wI (Or.inl rfl) _).wI (Or.inr ⟨rfl, rfl⟩) _, by simp [up2_if], by simp; omega, fun i y q => ?_⟩
  · unfold f_X6_push b_X6_push
    simp (disch := omega) only [T_X6_push_0, W_14 hW, gd_true, fO, fA, ex_in, bnd_s, Nat.reduceLT, Nat.reduceEqDiff, true_and, and_self, hP.1, nI_lt0, if_false, e, show Int32.ofNat 854 = nI 854 from rfl, nI_le_, nI_z, vp_iff, up2_if, false_and, nI_1]
    rw [if_neg (by omega), gd_pos hl]
  · rcases get_app q with ⟨h1, h2⟩ | ⟨h1, h2⟩
    · have : i ≠ P.length := by omega
      simp [up2_if, this, hP.2.2 i y h2]
    · subst h1 h2
      simp [up2_if]
theorem c_pop (hW : Wd M) {P : List Nat} {x : Nat} (hP : PlC M (P ++ [x])) (k : Nat) : f_X6_pop (k + 1) 14 M = some (nI x, wI M 14 6 (nI P.length)) ∧ PlC (wI M 14 6 (nI P.length)) P := by
  have hl := hP.2.1
  have h1 := hP.1
  simp only [List.length_append, List.length_cons, List.length_nil] at hl h1
  have hW1 : Wd (wI M 14 6 (nI P.length)) := hW.wI _ _ _
  have e : aLen (wI M 14 6 (nI P.length)) 21 = some 854 := by simp [aLen, W_14 hW]
  have ex : M.2.2.1 21 P.length = nI x := hP.2.2 P.length x (by simp)
  have hA := fA_R hW1 (a := 21) (by omega) (s_21 hW1) (show P.length < 854 by omega) (by omega)
  have ea : f_X10_at k 21 (nI P.length) (wI M 14 6 (nI P.length)) = some (nI x, wI M 14 6 (nI P.length)) := by
    unfold f_X10_at b_X10_at T_X10_at_0
    simp (disch := omega) only [↓reduceIte, nI_lt0, ↓bnd_of e, show Int32.ofNat 854 = nI 854 from rfl, nI_le_, eq_false (show ¬ 854 ≤ P.length by omega), ↓gd_pos hA, nI_z, up2_if, Nat.reduceEqDiff, false_and, if_false, ex]
  constructor
  · have hO : fO M 14 6 := ⟨by rw [hW.1]; omega, s_14 hW⟩
    have hpm : M.2.2.1 14 6 - 1 = nI P.length := by
      rw [h1]
      exact pm_sub (P.length + 1)
    have E : cal (k + 1) (fun n => f_X10_at n 21 ((wI M 14 6 ((M.2.2.1 14 6) - 1)).2.2.1 14 6) (wI M 14 6 ((M.2.2.1 14 6) - 1))) = some (nI x, wI M 14 6 (nI P.length)) := by
      rw [cal_s, hpm]
      have : (wI M 14 6 (nI P.length)).2.2.1 14 6 = nI P.length := by simp [up2_if]
      rw [this]
      exact ea
    unfold f_X6_pop b_X6_pop T_X6_pop_0
    simp only [↓gd_pos hO, ↓bnd_of (r_14_5 hW), ↓bnd2_of E]
  · refine ⟨by simp [up2_if], by omega, fun i y q => ?_⟩
    have : i < P.length := by
      apply Nat.lt_of_not_le
      intro z
      rw [List.getElem?_eq_none z] at q
      cases q
    have := hP.2.2 i y (by rw [List.getElem?_append_left this]; exact q)
    simp [up2_if, this]
/-- what a name is told for -/
theorem meaning_loop (hW : Wd M) {sc : List Nat} (hS : ScC M sc) {c : Nat} {H : List (Nat × Fm)} (hH : HyC M 10 c H) {nm : Nat} (hnm : nm < 2147483648) (k : Nat) : ∀ z, z ≤ sc.length → lp (st_X6_meaning (k + 1)) (12, [.ref 14, .int (nI nm), .ref 10, .int (pm z)], M) = some ((match lstI sc nm z with | some j => nI j | none => (match fstI H nm H.length 0 with | some j => -1 - nI j | none => 24)), M) := by
  have hO : fO M 14 6 := ⟨by rw [hW.1]; omega, s_14 hW⟩
  have hO10 : fO M 10 2 := ⟨by rw [hW.1]; omega, s_10 hW⟩
  have h24 := hS.2.1
  have h6 := hH.2.1
  intro z
  induction z with
  | zero =>
    intro _
    refine (ge_X6_meaning_12 (k + 1) 14 (nI nm) 10 (pm 0) M).trans ?_
    obtain ⟨f1, f2⟩ := c_find10 hW k hH hnm
    have gd : ∀ i, (hi : i < H.length) → (H.getD i (0, .arg 0)).1 = H[i].1 := fun i hi => by
      rw [List.getD_eq_getElem?_getD, List.getElem?_eq_getElem hi]
      rfl
    unfold T_X6_meaning_12
    have hneg : (pm 0 < (0 : Int32)) = True := eq_true (by decide)
    show _ = some ((match fstI H nm H.length 0 with | some j => -1 - nI j | none => 24), M)
    rcases fstI_is H nm H.length 0 with ⟨e, q⟩ | ⟨i, -, h1, h2, e, q⟩
    · have ef := f2 (fun i hi => by rw [← gd i hi]; exact q i (Nat.zero_le _) (by omega))
      rw [e]
      simp only [↓reduceIte, hneg, ↓gd_pos hO10, ↓bnd2_of (show cal (k + 1) (fun n => f_X2_find n 10 (nI nm) M) = _ from ef)]
    · have ef := f1 i (by omega) (by rw [← gd i (by omega)]; exact h2) (fun u hu => by rw [← gd u (by omega)]; exact q u (Nat.zero_le _) hu)
      rw [e]
      simp (disch := omega) only [↓reduceIte, hneg, ↓gd_pos hO10, ↓bnd2_of (show cal (k + 1) (fun n => f_X2_find n 10 (nI nm) M) = _ from ef), nI_ne_m1]
  | succ z ih =>
    intro hz
    refine (ge_X6_meaning_12 (k + 1) 14 (nI nm) 10 (nI z) M).trans ?_
    have hA : fA M 22 1 (nI z) := fA_R hW (by omega) (s_22 hW) (show z < 24 by omega) (by omega)
    obtain ⟨g1, g2⟩ := hS.2.2 z (by omega)
    unfold T_X6_meaning_12 lstI
    by_cases q : sc.getD z 0 = nm
    · rw [if_pos q]
      simp (disch := omega) only [↓reduceIte, nI_lt0, ↓gd_pos hO, ↓bnd_of (r_14_7 hW), ↓gd_pos hA, nI_z, g1, nI_eq_, eq_true q]
    · rw [if_neg q]
      simp (disch := omega) only [↓reduceIte, nI_lt0, ↓gd_pos hO, ↓bnd_of (r_14_7 hW), ↓gd_pos hA, nI_z, g1, nI_eq_, eq_false q, pm_dec]
      exact ih (by omega)
def mgI (x : Option Tm) : Int32 := match x with
  | some t => nv t
  | none => 24
theorem c_meaning (hW : Wd M) {sc : List Nat} (hS : ScC M sc) {c : Nat} {H : List (Nat × Fm)} (hH : HyC M 10 c H) {nm : Nat} (hnm : nm < 2147483648) (k : Nat) : f_X6_meaning (k + 1) 14 (nI nm) 10 M = some (mgI (mng sc H nm), M) := by
  have h24 := hS.2.1
  have hO : fO M 14 6 := ⟨by rw [hW.1]; omega, s_14 hW⟩
  have e := meaning_loop hW hS hH hnm k sc.length (Nat.le_refl _)
  have e2 : (match lstI sc nm sc.length with | some j => nI j | none => (match fstI H nm H.length 0 with | some j => -1 - nI j | none => (24 : Int32))) = mgI (mng sc H nm) := by
    unfold mng
    cases lstI sc nm sc.length with
    | some j => rfl
    | none =>
      cases fstI H nm H.length 0 with
      | some j => rfl
      | none => rfl
  rw [e2] at e
  refine (ge_X6_meaning_0 (k + 1) 14 (nI nm) 10 M).trans ?_
  rw [← e]
  unfold T_X6_meaning_0
  have h1 : 1 ≤ k + 1 := by omega
  simp (disch := omega) only [↓gd_pos hO, ↓gd_pos h1, hS.1, show (24 : Int32) = nI 24 from rfl, nI_lt_]
  rw [if_neg (by omega), pm_sub]
def SBn (a k : Nat) : Prop := SE a k ∨ (a = 14 ∧ k = 8) ∨ a = 22
set_option maxHeartbeats 1000000 in
theorem c_binder (hW : Wd M) (hX : TxC M b n) {p : Nat} (hp : p ≤ n) (h11 : M.2.2.1 14 11 = nI p) {sc : List Nat} (hS : ScC M sc) (k : Nat) : (∀ e, rdB b n p sc = .inl e → ∃ M1, f_X6_readBinder (k + 2) 14 M = some (0, M1) ∧ Fr SBn M M1 ∧ M1.2.2.1 14 17 = nI e.1 ∧ M1.2.2.1 14 18 = nI e.2) ∧ (∀ u, rdB b n p sc = .inr u → ∃ M1, f_X6_readBinder (k + 2) 14 M = some (1, M1) ∧ Fr SBn M M1 ∧ M1.2.2.1 14 17 = M.2.2.1 14 17 ∧ M1.2.2.1 14 18 = M.2.2.1 14 18 ∧ M1.2.2.1 14 11 = nI u.2 ∧ ScC M1 (sc ++ [u.1])) := by
  obtain ⟨M5, a1, a2, a3, a4, a5, a6⟩ := c_advance hW hX k hp h11
  have hW5 := a2.Wd hW
  have h24 := hS.2.1
  have hn6 := hX.2.1
  have hO : fO M 14 6 := ⟨by rw [hW.1]; omega, s_14 hW⟩
  have hO5 : fO M5 14 6 := ⟨by rw [hW5.1]; omega, s_14 hW5⟩
  have hK : TkC M5 b n p := ⟨a3, a4, a5, a6⟩
  obtain ⟨t1, t2⟩ := c_atName hW5 k hK hp hn6
  have F5 : Fr SBn M M5 := a2.mono (fun a k q => Or.inl (SA_SE a k q))
  have fl : ∀ x : Nat, Fr SBn M (wI (wI M5 14 17 (nI x)) 14 18 (nI (tq b n p))) := fun x => (F5.wI (Or.inl (by simp [SE])) _).wI (Or.inl (by simp [SE])) _
  have hS5 : ScC M5 sc := hS.mv a2 (by unfold SA; omega) (fun k => by unfold SA; omega)
  obtain ⟨m, hm⟩ : ∃ m, m = k + 1 := ⟨_, rfl⟩
  rw [← hm] at a1 t1 t2
  rw [show k + 2 = m + 1 by omega]
  by_cases hN : isN b n p
  · have e1 := t1 hN
    have e2 := c_nameRead hW5 k hK hp hn6 hN
    rw [← hm] at e2
    have hrd : rdB b n p sc = if 24 ≤ sc.length then .inl (4, tq b n p) else .inr (nmAt b n p, te b n p) := itc_pos hN
    by_cases h4 : 24 ≤ sc.length
    · rw [if_pos h4] at hrd
      rw [hrd]
      refine ⟨fun e he => ?_, fun u hu => by cases hu⟩
      cases he
      have ef := c_fail hW5 m 4 (nI (tq b n p))
      have E : cal (m + 1) (fun n => f_X6_fail n 14 4 (M5.2.2.1 14 12) M5) = some (0, wI (wI M5 14 17 4) 14 18 (nI (tq b n p))) := by
        rw [cal_s, a3]
        exact ef
      refine ⟨_, ?_, fl 4, by simp [up2_if], by simp [up2_if]⟩
      unfold f_X6_readBinder b_X6_readBinder T_X6_readBinder_0
      simp (disch := omega) only [↓reduceIte, ↓gd_pos hO, ↓gd_pos hO5, ↓bnd2_of (show cal (m + 1) (fun n => f_X6_advance n 14 M) = _ from a1), ↓bnd2_of (show cal (m + 1) (fun n => f_X6_atName n 14 M5) = _ from e1), show ((1 : Int32) = 0) = False from eq_false (by decide), hS5.1, nI_lt0, show (24 : Int32) = nI 24 from rfl, nI_lt_, eq_false (show ¬ sc.length < 24 by omega), ↓bnd2_of E, nar_b0, gd_true]
      rfl
    · rw [if_neg h4] at hrd
      rw [hrd]
      refine ⟨fun e he => (by cases he), fun u hu => ?_⟩
      cases hu
      have hA : fA M5 22 1 (M5.2.2.1 14 8) := by
        rw [hS5.1]
        exact fA_R hW5 (by omega) (s_22 hW5) (show sc.length < 24 by omega) (by omega)
      have hnm := (nmc_lt hN.ok).1
      refine ⟨wI (wI M5 22 sc.length (nI (nmAt b n p))) 14 8 (nI (sc.length + 1)), ?_, (F5.wI (Or.inr (Or.inr rfl)) _).wI (Or.inr (Or.inl ⟨rfl, rfl⟩)) _, ?_, ?_, ?_, ?_⟩
      · unfold f_X6_readBinder b_X6_readBinder T_X6_readBinder_0
        simp (disch := omega) only [↓reduceIte, ↓gd_pos hO, ↓gd_pos hO5, ↓bnd2_of (show cal (m + 1) (fun n => f_X6_advance n 14 M) = _ from a1), ↓bnd2_of (show cal (m + 1) (fun n => f_X6_atName n 14 M5) = _ from e1), show ((1 : Int32) = 0) = False from eq_false (by decide), ↓bnd_of (r_14_7 hW5), ↓bnd2_of (show cal (m + 1) (fun n => f_X6_nameRead n 14 M5) = _ from e2), ↓gd_pos hA, hS5.1, nI_lt0, show (24 : Int32) = nI 24 from rfl, nI_lt_, eq_true (show sc.length < 24 by omega), nI_z, up2_if, Nat.reduceEqDiff, false_and, if_false, nI_1]
      · simp [up2_if, a2.int (show ¬ SA 14 17 by unfold SA; omega)]
      · simp [up2_if, a2.int (show ¬ SA 14 18 by unfold SA; omega)]
      · have : nxt b n p = te b n p := by
          unfold nxt
          have := hN.1
          have := (tq_le b n p hp).2.2.2
          rw [if_neg (by omega), if_neg (by omega)]
        simp [up2_if, a4, this]
      · refine ⟨by simp [up2_if], by simp; omega, fun i hi => ?_⟩
        simp only [List.length_append, List.length_cons, List.length_nil] at hi
        by_cases q : i < sc.length
        · have ne : i ≠ sc.length := by omega
          rw [List.getD_eq_getElem?_getD, List.getElem?_append_left q, ← List.getD_eq_getElem?_getD]
          simp [up2_if, ne]
          exact hS5.2.2 i q
        · have e : i = sc.length := by omega
          subst e
          rw [List.getD_eq_getElem?_getD, List.getElem?_append_right (Nat.le_refl _), Nat.sub_self]
          simp [up2_if]
          exact hnm
  · have e1 := t2 hN
    have hrd : rdB b n p sc = .inl (1, tq b n p) := itc_neg hN
    rw [hrd]
    refine ⟨fun e he => ?_, fun u hu => by cases hu⟩
    cases he
    have ef := c_fail hW5 m 1 (nI (tq b n p))
    have E : cal (m + 1) (fun n => f_X6_fail n 14 1 (M5.2.2.1 14 12) M5) = some (0, wI (wI M5 14 17 1) 14 18 (nI (tq b n p))) := by
      rw [cal_s, a3]
      exact ef
    refine ⟨_, ?_, fl 1, by simp [up2_if], by simp [up2_if]⟩
    unfold f_X6_readBinder b_X6_readBinder T_X6_readBinder_0
    simp (disch := omega) only [↓reduceIte, ↓gd_pos hO, ↓gd_pos hO5, ↓bnd2_of (show cal (m + 1) (fun n => f_X6_advance n 14 M) = _ from a1), ↓bnd2_of (show cal (m + 1) (fun n => f_X6_atName n 14 M5) = _ from e1), ↓bnd2_of E, nar_b0, gd_true]
    rfl
end RTC
