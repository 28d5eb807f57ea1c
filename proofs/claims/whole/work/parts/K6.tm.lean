/-! THE DECIDER in the class: takeParts, a turn whole -/
section TM6
variable {M M0 M1 : Mem} {m n : Nat} {kd lf rt : Nat → Nat}
set_option maxHeartbeats 2000000 in
theorem tp_76 (hW : Wd M) (hT : TkP M m kd lf rt) {i : Nat} (hi : i < m) (h81 : M.2.2.1 81 i = nI (kd i)) (L : Int64) : lp (st_X0_takeParts (n + 1)) (76, [.ref 80, .int (nI i), .long L, .int (nI i), .ref 82], M) = lp (st_X0_takeParts (n + 1)) (108, [.ref 80, .int (nI i), .long (if 9 ≤ kd i then bt (rt i) else 0), .int (nI i), .ref 83], wJ M 82 i L) := by
  obtain ⟨t1, h40, t3⟩ := hT
  obtain ⟨k1, k2, k3⟩ := t3 i hi
  refine (ge_X0_takeParts_76 (n + 1) 80 (nI i) L (nI i) 82 M).trans ?_
  unfold T_X0_takeParts_76
  have h81' : M.2.2.1 81 ((nI i).toNatClampNeg) = nI (kd i) := by rw [nI_z (by omega)]; exact h81
  by_cases h9 : 9 ≤ kd i
  · obtain ⟨k4, k5, k6, k7⟩ := k3 h9
    have q9 : ((9 : Int32) ≤ nI (kd i)) = True := eq_true (by rw [show (9 : Int32) = nI 9 from rfl, nI_le_ (by omega) (by omega)]; exact h9)
    have y := (c_partAt (n := n) (M := wJ M 82 ((nI i).toNatClampNeg) L) (hW.wJ _ _ _) (m := m) (i := i) t1 (by omega) hi).2.2.1
    rw [show (wJ M 82 ((nI i).toNatClampNeg) L).2.2.1 78 i = nI (rt i) from k5] at y
    have y2 := c_bit (show rt i < 40 by omega) n (wJ M 82 ((nI i).toNatClampNeg) L)
    rw [if_pos h9]
    simp (disch := omega) only [↓gd_pos (fA82 hW (show i < 40 by omega)), ↓gd_pos (fO80 hW), ↓bnd_of (r_80_3 hW), ↓bnd_of (r_80_1 hW), ↓gd_pos (fA81 hW (show i < 40 by omega)), h81', q9, ↓reduceIte, ↓bnd_of (r_80_0 hW), ↓gd_pos (fO74 hW), ↓bnd2_of (show cal (n + 1) (fun zz => f_X5_rightAt zz 74 (nI i) (wJ M 82 ((nI i).toNatClampNeg) L)) = _ from y), ↓bnd2_of (show cal (n + 1) (fun zz => f_X0_bit zz (nI (rt i)) (wJ M 82 ((nI i).toNatClampNeg) L)) = _ from y2)]
    rw [nI_z (by omega)]
  · have q9 : ((9 : Int32) ≤ nI (kd i)) = False := eq_false (by rw [show (9 : Int32) = nI 9 from rfl, nI_le_ (by omega) (by omega)]; exact h9)
    rw [if_neg h9]
    simp (disch := omega) only [↓gd_pos (fA82 hW (show i < 40 by omega)), ↓gd_pos (fO80 hW), ↓bnd_of (r_80_3 hW), ↓bnd_of (r_80_1 hW), ↓gd_pos (fA81 hW (show i < 40 by omega)), h81', q9, ↓reduceIte]
    rw [nI_z (by omega)]
set_option maxHeartbeats 2000000 in
theorem tp_23 (hW : Wd M) (hT : TkP M m kd lf rt) (h8 : M.2.2.1 80 7 = nI m) {i : Nat} (hi : i < m) : lp (st_X0_takeParts (n + 1)) (23, [.ref 80, .int (nI i)], M) = lp (st_X0_takeParts (n + 1)) (76, [.ref 80, .int (nI i), .long (if 9 ≤ kd i then bt (lf i) else 0), .int (nI i), .ref 82], wI M 81 i (nI (kd i))) := by
  obtain ⟨t1, h40, t3⟩ := hT
  obtain ⟨k1, k2, k3⟩ := t3 i hi
  refine (ge_X0_takeParts_23 (n + 1) 80 (nI i) M).trans ?_
  unfold T_X0_takeParts_23
  have hle : (nI m ≤ nI i) = False := eq_false (by rw [nI_le_ (by omega) (by omega)]; omega)
  have y := (c_partAt (n := n) hW (m := m) (i := i) t1 (by omega) hi).1
  rw [k1] at y
  have ek : (wI M 81 ((nI i).toNatClampNeg) (nI (kd i))).2.2.1 81 ((nI i).toNatClampNeg) = nI (kd i) := by simp [up2_if]
  by_cases h9 : 9 ≤ kd i
  · obtain ⟨k4, k5, k6, k7⟩ := k3 h9
    have q9 : ((9 : Int32) ≤ nI (kd i)) = True := eq_true (by rw [show (9 : Int32) = nI 9 from rfl, nI_le_ (by omega) (by omega)]; exact h9)
    have y1 := (c_partAt (n := n) (M := wI M 81 ((nI i).toNatClampNeg) (nI (kd i))) (hW.wI _ _ _) (m := m) (i := i) (by simp [up2_if]; exact t1) (by omega) hi).2.1
    rw [show (wI M 81 ((nI i).toNatClampNeg) (nI (kd i))).2.2.1 77 i = nI (lf i) by simp [up2_if]; exact k4] at y1
    have y2 := c_bit (show lf i < 40 by omega) n (wI M 81 ((nI i).toNatClampNeg) (nI (kd i)))
    rw [if_pos h9]
    simp (disch := omega) only [↓gd_pos (fO80 hW), h8, hle, ↓reduceIte, ↓bnd_of (r_80_1 hW), ↓bnd_of (r_80_0 hW), ↓gd_pos (fO74 hW), ↓bnd2_of (show cal (n + 1) (fun zz => f_X5_kindAt zz 74 (nI i) M) = _ from y), ↓gd_pos (fA81 hW (show i < 40 by omega)), ↓bnd_of (r_80_2 hW), ek, q9, ↓bnd2_of (show cal (n + 1) (fun zz => f_X5_leftAt zz 74 (nI i) (wI M 81 ((nI i).toNatClampNeg) (nI (kd i)))) = _ from y1), ↓bnd2_of (show cal (n + 1) (fun zz => f_X0_bit zz (nI (lf i)) (wI M 81 ((nI i).toNatClampNeg) (nI (kd i)))) = _ from y2)]
    rw [nI_z (by omega), show up2 M.2.2.1 81 i (nI (kd i)) 81 i = nI (kd i) from if_pos ⟨rfl, rfl⟩]
    simp only [q9, ↓reduceIte]
  · have q9 : ((9 : Int32) ≤ nI (kd i)) = False := eq_false (by rw [show (9 : Int32) = nI 9 from rfl, nI_le_ (by omega) (by omega)]; exact h9)
    rw [if_neg h9]
    simp (disch := omega) only [↓gd_pos (fO80 hW), h8, hle, ↓reduceIte, ↓bnd_of (r_80_1 hW), ↓bnd_of (r_80_0 hW), ↓gd_pos (fO74 hW), ↓bnd2_of (show cal (n + 1) (fun zz => f_X5_kindAt zz 74 (nI i) M) = _ from y), ↓gd_pos (fA81 hW (show i < 40 by omega)), ↓bnd_of (r_80_2 hW), ek, q9]
    rw [nI_z (by omega), show up2 M.2.2.1 81 i (nI (kd i)) 81 i = nI (kd i) from if_pos ⟨rfl, rfl⟩]
    simp only [q9, ↓reduceIte]
end TM6
