/-! THE DECIDER in the class: takeParts, a turn -/
/-- the parts as they lie in Parts -/
def TkP (M : Mem) (m : Nat) (kd lf rt : Nat → Nat) : Prop := M.2.2.1 74 6 = nI m ∧ m ≤ 40 ∧ ∀ i, i < m → M.2.2.1 76 i = nI (kd i) ∧ kd i ≤ 11 ∧ (9 ≤ kd i → M.2.2.1 77 i = nI (lf i) ∧ M.2.2.1 78 i = nI (rt i) ∧ lf i < i ∧ rt i < i)
def S81 (a k : Nat) : Prop := (a = 80 ∧ (k = 7 ∨ k = 9)) ∨ a = 81 ∨ a = 82 ∨ a = 83
section TK5
variable {M M0 M1 : Mem} {m n : Nat} {kd lf rt : Nat → Nat}
theorem TkP.fr (h : TkP M m kd lf rt) (F : Fr S81 M M1) : TkP M1 m kd lf rt := by
  have e : ∀ a k, (74 ≤ a ∧ a ≤ 78) → M1.2.2.1 a k = M.2.2.1 a k := fun a k q => F.int (by unfold S81; omega)
  refine ⟨by rw [e _ _ (by omega)]; exact h.1, h.2.1, fun i hi => ?_⟩
  rw [e _ _ (by omega), e _ _ (by omega), e _ _ (by omega)]
  exact h.2.2 i hi
set_option maxHeartbeats 2000000 in
theorem tp_108 (hW : Wd M) {i : Nat} (hi : i < 40) {o : Nat} (ho : o ≤ 11) (h81 : M.2.2.1 81 i = nI o) (R : Int64) : lp (st_X0_takeParts (n + 1)) (108, [.ref 80, .int (nI i), .long R, .int (nI i), .ref 83], M) = lp (st_X0_takeParts (n + 1)) (23, [.ref 80, .int (nI (i + 1))], if o = 8 then wJ (wJ M 83 i R) 80 9 (bt i) else wJ M 83 i R) := by
  refine (ge_X0_takeParts_108 (n + 1) 80 (nI i) R (nI i) 83 M).trans ?_
  unfold T_X0_takeParts_108
  have y := c_bit hi n (wJ M 83 ((nI i).toNatClampNeg) R)
  have hO : fO (wJ M 83 ((nI i).toNatClampNeg) R) 80 0 := fO80 (hW.wJ _ _ _)
  by_cases e8 : o = 8
  · have q8 : (nI o = (8 : Int32)) = True := eq_true (by rw [e8]; rfl)
    rw [if_pos e8]
    simp (disch := omega) only [↓gd_pos (fA83 hW hi), ↓gd_pos (fO80 hW), ↓bnd_of (r_80_1 hW), ↓gd_pos (fA81 hW hi), show M.2.2.1 81 ((nI i).toNatClampNeg) = nI o by rw [nI_z (by omega)]; exact h81, q8, ↓reduceIte, ↓bnd2_of (show cal (n + 1) (fun zz => f_X0_bit zz (nI i) (wJ M 83 ((nI i).toNatClampNeg) R)) = _ from y), ↓gd_pos hO, nI_1]
    rw [nI_z (by omega)]
  · have q8 : (nI o = (8 : Int32)) = False := eq_false (fun q => e8 ((nI_eq (by omega) (by omega)).mp q))
    rw [if_neg e8]
    simp (disch := omega) only [↓gd_pos (fA83 hW hi), ↓gd_pos (fO80 hW), ↓bnd_of (r_80_1 hW), ↓gd_pos (fA81 hW hi), show M.2.2.1 81 ((nI i).toNatClampNeg) = nI o by rw [nI_z (by omega)]; exact h81, q8, ↓reduceIte, nI_1]
    rw [nI_z (by omega)]
end TK5
