/-! MARKS, in the reference -/
def dpf : Fm → Nat
  | .add a b => 1 + max (dpf a) (dpf b)
  | .mul a b => 1 + max (dpf a) (dpf b)
  | .sub a b => 1 + max (dpf a) (dpf b)
  | _ => 0
theorem dpf_mk (j : Nat) (a b : Fm) : dpf (mkF j a b) = 1 + max (dpf a) (dpf b) := by
  unfold mkF
  split
  · rfl
  · split <;> rfl
/-- the parts of an entry are marked -/
def PkR (M M1 : Mem) (i : Nat) : Prop := ∀ a b, a < 20000 → b < 20000 → M.2.2.1 91 i = nI a → M.2.2.1 92 i = nI b → M1.2.2.1 95 a ≠ -1 ∧ M1.2.2.1 95 b ≠ -1
def S95 (a _k : Nat) : Prop := a = 95
/-- what marking leaves: old marks stand, of what is new the parts are marked -/
def MkO (c : Nat) (S : Nat → Prop) (M M1 : Mem) : Prop := Fr S95 M M1 ∧ (∀ i, M.2.2.1 95 i ≠ -1 → M1.2.2.1 95 i ≠ -1) ∧ ∀ i, M1.2.2.1 95 i ≠ -1 → M.2.2.1 95 i ≠ -1 ∨ (i < c ∧ S i ∧ PkR M M1 i)
theorem MkO.refl {c : Nat} {S : Nat → Prop} {M : Mem} : MkO c S M M := ⟨Fr.refl, fun _ h => h, fun _ h => Or.inl h⟩
theorem MkO.trans {c : Nat} {S : Nat → Prop} {M M1 M2 : Mem} (h : MkO c S M M1) (k : MkO c S M1 M2) : MkO c S M M2 := by
  refine ⟨h.1.trans k.1, fun i hi => k.2.1 i (h.2.1 i hi), fun i hi => ?_⟩
  have e91 : M1.2.2.1 91 = M.2.2.1 91 := h.1.ints (by simp [S95])
  have e92 : M1.2.2.1 92 = M.2.2.1 92 := h.1.ints (by simp [S95])
  rcases k.2.2 i hi with x | ⟨x, xs, y⟩
  · rcases h.2.2 i x with z | ⟨z, zs, w⟩
    · exact Or.inl z
    · refine Or.inr ⟨z, zs, fun a b ha hb ea eb => ?_⟩
      obtain ⟨u, v⟩ := w a b ha hb ea eb
      exact ⟨k.2.1 a u, k.2.1 b v⟩
  · refine Or.inr ⟨x, xs, fun a b ha hb ea eb => y a b ha hb (by rw [e91]; exact ea) (by rw [e92]; exact eb)⟩
section MK
theorem marks_eq (k : Nat) (x : Int32) (M : Mem) : f_X11_marks (k + 1) 89 x M = T_X11_marks_0 (fun v M => some (v, M)) none (r_X11_marks k) (k + 1) 89 x M := rfl
theorem rx_marks1 (k : Nat) (M : Mem) : f_X11_marks (k + 1) 89 (-1) M = some ((), M) := by
  rw [marks_eq]
  simp only [T_X11_marks_0, if_true]
set_option maxHeartbeats 4000000 in
theorem rx_marks {c : Nat} (hc : c ≤ 16384) {S : Nat → Prop} {l r : Nat → Int32} (hS : ∀ i, i < c → S i → ∀ a, a < 20000 → (l i = nI a ∨ r i = nI a) → S a) : ∀ (d k f : Nat) (M : Mem), M.2.2.1 91 = l → M.2.2.1 92 = r → S f → Wd M → TbI c (M.2.2.1 90) (M.2.2.1 91) (M.2.2.1 92) → f < c → dpf (dR M f) ≤ d → ∃ M1, f_X11_marks (d + 2 + k) 89 (nI f) M = some ((), M1) ∧ MkO c S M M1 ∧ M1.2.2.1 95 f ≠ -1 := by
  intro d
  induction d using Nat.strongRecOn with
  | ind d ih =>
  intro k f M el er hSf hW hT hf hd
  have hf2 : f < 16384 := by omega
  by_cases hm : M.2.2.1 95 f = -1
  · -- what is told of a part: it may be none
    have child : ∀ (x : Int32) (M' : Mem), Fr S95 M M' → (x = -1 ∨ ∃ a, a < f ∧ x = nI a ∧ dpf (dR M a) + 1 ≤ d) → (∀ a, a < 20000 → x = nI a → S a) → ∃ M1, f_X11_marks (d + 1 + k) 89 x M' = some ((), M1) ∧ MkO c S M' M1 ∧ ∀ a, a < 20000 → x = nI a → M1.2.2.1 95 a ≠ -1 := by
      intro x M' hF hx hxS
      rcases hx with rfl | ⟨a, ha, rfl, hda⟩
      · refine ⟨M', by rw [show d + 1 + k = (d + k) + 1 by omega]; exact rx_marks1 _ M', MkO.refl, fun a ha e => ?_⟩
        exact absurd e.symm (of_eq_false (nI_ne_m1 (by omega)))
      · have i0 : M'.2.2.1 90 = M.2.2.1 90 := hF.ints (by simp [S95])
        have i1 : M'.2.2.1 91 = M.2.2.1 91 := hF.ints (by simp [S95])
        have i2 : M'.2.2.1 92 = M.2.2.1 92 := hF.ints (by simp [S95])
        have hda' : dpf (dR M' a) ≤ d - 1 := by unfold dR at hda ⊢; rw [i0, i1, i2]; omega
        obtain ⟨M1, x1, x2, x3⟩ := ih (d - 1) (by omega) k a M' (i1.trans el) (i2.trans er) (hxS a (by omega) rfl) (hF.Wd hW) (by rw [i0, i1, i2]; exact hT) (by omega) hda'
        refine ⟨M1, by rw [show d + 1 + k = d - 1 + 2 + k by omega]; exact x1, x2, fun a' ha' e => ?_⟩
        rw [← (nI_eq (by omega) (by omega)).mp e]
        exact x3
    have hparts : (M.2.2.1 91 f = -1 ∨ ∃ a, a < f ∧ M.2.2.1 91 f = nI a ∧ dpf (dR M a) + 1 ≤ d) ∧ (M.2.2.1 92 f = -1 ∨ ∃ a, a < f ∧ M.2.2.1 92 f = nI a ∧ dpf (dR M a) + 1 ≤ d) := by
      rcases hT f hf with ⟨j, hj, e1, e2, e3⟩ | ⟨j, a, b, h1, h2, ha, hb, e1, e2, e3⟩
      · exact ⟨Or.inl e2, Or.inl e3⟩
      · have := dT_node hT (by omega) hf h1 h2 e1 e2 e3 ha hb
        have hd' := hd
        unfold dR at hd'
        rw [this, dpf_mk] at hd'
        refine ⟨Or.inr ⟨a, ha, e2, ?_⟩, Or.inr ⟨b, hb, e3, ?_⟩⟩
        · show dpf (dT _ _ _ a) + 1 ≤ d
          omega
        · show dpf (dT _ _ _ b) + 1 ≤ d
          omega
    obtain ⟨M2, x1, x2, x3⟩ := child (M.2.2.1 91 f) (wI M 95 f 0) (Fr.refl.wI (show S95 95 f from rfl) _) hparts.1 (fun a ha e => hS f hf hSf a ha (Or.inl (by rw [← el]; exact e)))
    have F2 : Fr S95 M M2 := (Fr.refl.wI (show S95 95 f from rfl) _).trans x2.1
    have hW2 := F2.Wd hW
    obtain ⟨M3, y1, y2, y3⟩ := child (M.2.2.1 92 f) M2 F2 hparts.2 (fun a ha e => hS f hf hSf a ha (Or.inr (by rw [← er]; exact e)))
    have i92 : M2.2.2.1 92 f = M.2.2.1 92 f := F2.int (by simp [S95])
    have x1' : r_X11_marks (d + 1 + k) 0 [.ref 89, .int (M.2.2.1 91 f)] (wI M 95 f 0) = some ((), M2) := x1
    have y1' : r_X11_marks (d + 1 + k) 0 [.ref 89, .int (M.2.2.1 92 f)] M2 = some ((), M3) := y1
    have hself : (wI M 95 f 0).2.2.1 95 f ≠ -1 := by simp [up2_if]
    refine ⟨M3, ?_, ⟨F2.trans y2.1, fun i hi => ?_, fun i hi => ?_⟩, y2.2.1 f (x2.2.1 f hself)⟩
    · rw [show d + 2 + k = (d + 1 + k) + 1 by omega, marks_eq]
      simp (disch := omega) only [T_X11_marks_0, nI_ne_m1, if_false, W_89 hW, W_89 hW2, gd_true, fO, fA, ex_in, Nat.reduceLT, true_and, and_self, bnd_s, nI_z, vp_iff, hf2, hm, if_true, up2_if, Nat.reduceEqDiff, false_and, x1', bnd2_s, i92, y1']
    · refine y2.2.1 i (x2.2.1 i ?_)
      by_cases e : i = f
      · rw [e]; exact hself
      · simp only [up2_if, true_and, e, if_false]
        exact hi
    · have e91 : M2.2.2.1 91 = M.2.2.1 91 := F2.ints (by simp [S95])
      have e92 : M2.2.2.1 92 = M.2.2.1 92 := F2.ints (by simp [S95])
      rcases y2.2.2 i hi with z | ⟨z, zs, w⟩
      · rcases x2.2.2 i z with u | ⟨u, us, v⟩
        · by_cases e : i = f
          · subst e
            refine Or.inr ⟨hf, hSf, fun a b ha hb ea eb => ?_⟩
            exact ⟨y2.2.1 a (x3 a ha ea), y3 b hb eb⟩
          · left
            simp only [up2_if, true_and, e, if_false] at u
            exact u
        · refine Or.inr ⟨u, us, fun a b ha hb ea eb => ?_⟩
          obtain ⟨g1, g2⟩ := v a b ha hb ea eb
          exact ⟨y2.2.1 a g1, y2.2.1 b g2⟩
      · refine Or.inr ⟨z, zs, fun a b ha hb ea eb => w a b ha hb (by rw [e91]; exact ea) (by rw [e92]; exact eb)⟩
  · refine ⟨M, ?_, MkO.refl, hm⟩
    rw [show d + 2 + k = (d + 1 + k) + 1 by omega, marks_eq]
    simp (disch := omega) only [T_X11_marks_0, nI_ne_m1, if_false, W_89 hW, gd_true, fO, fA, ex_in, Nat.reduceLT, true_and, and_self, bnd_s, nI_z, vp_iff, hf2, hm]
end MK
