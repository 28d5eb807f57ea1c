/-! THE TAPE -/
def sb (x : Nat) : Int32 := (Int32.toInt8 (nI x)).toInt32
def byN (v : Int32) (s : Nat) : Nat := (iushr v (nI s) &&& 255).toNatClampNeg
theorem byN_is (v : Int32) (s : Nat) : byN v s < 256 ∧ iushr v (nI s) &&& 255 = nI (byN v s) := by
  obtain ⟨j, h1, h2⟩ := pk_andE (iushr v (nI s)) (m := 255) 8 (by decide)
  have : byN v s = j := by unfold byN; rw [h2, nI_z (by omega)]
  rw [this]
  exact ⟨by omega, h2⟩
theorem by8 (v : Int32) : (Int32.toInt8 (v >>> ((0 : Int32) &&& 31))) = Int32.toInt8 (iushr v 0 &&& 255) ∧ (Int32.toInt8 (v >>> ((8 : Int32) &&& 31))) = Int32.toInt8 (iushr v 8 &&& 255) ∧ (Int32.toInt8 (v >>> ((16 : Int32) &&& 31))) = Int32.toInt8 (iushr v 16 &&& 255) ∧ (Int32.toInt8 (v >>> ((24 : Int32) &&& 31))) = Int32.toInt8 (iushr v 24 &&& 255) := by
  refine ⟨?_, ?_, ?_, ?_⟩
  all_goals
    apply Int8.toBitVec_inj.mp
    ext i hi
    simp [iushr]
    sorry
