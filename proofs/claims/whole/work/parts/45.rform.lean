/-! FORMULAS of the reference: the making of one -/
def hR (x y z : Int32) : Int32 := ((x + (31 * y)) + (577 * z)) &&& 1023
def HR (M : Mem) (j : Nat) : Int32 := hR (M.2.2.1 90 j) (M.2.2.1 91 j) (M.2.2.1 92 j)
def dR (M : Mem) (i : Nat) : Fm := dT (M.2.2.1 90) (M.2.2.1 91) (M.2.2.1 92) i
def TabR (M : Mem) (c : Nat) : Prop := M.2.2.1 89 7 = nI c ∧ c ≤ 16384 ∧ TbI c (M.2.2.1 90) (M.2.2.1 91) (M.2.2.1 92) ∧ TbD c (M.2.2.1 90) (M.2.2.1 91) (M.2.2.1 92) ∧ (∀ h, h < 1024 → M.2.2.1 94 h = pvh (HR M) 0 (nI h) c) ∧ ∀ i, i < c → M.2.2.1 93 i = pvh (HR M) 0 (HR M i) i
/-- what may be made: an atom or no, or one of two -/
def FOk (M : Mem) (c : Nat) (x y z : Int32) (f : Fm) : Prop := (∃ j, j < 9 ∧ x = nI j ∧ y = -1 ∧ z = -1 ∧ f = .arg j) ∨ ∃ j a b, 9 ≤ j ∧ j ≤ 11 ∧ a < c ∧ b < c ∧ x = nI j ∧ y = nI a ∧ z = nI b ∧ f = mkF j (dR M a) (dR M b)
section RF
variable {M : Mem} {c : Nat}
theorem TabR.inj (h : TabR M c) {i j : Nat} (hi : i < c) (hj : j < c) (e : dR M i = dR M j) : i = j := dT_inj h.2.2.1 h.2.2.2.1 (by have := h.2.1; omega) (i + 1) i j (by omega) hi hj e
theorem TabR.cases (h : TabR M c) {i : Nat} (hi : i < c) : (∃ j, j < 9 ∧ M.2.2.1 90 i = nI j ∧ M.2.2.1 91 i = -1 ∧ M.2.2.1 92 i = -1 ∧ dR M i = .arg j) ∨ ∃ j a b, 9 ≤ j ∧ j ≤ 11 ∧ a < i ∧ b < i ∧ M.2.2.1 90 i = nI j ∧ M.2.2.1 91 i = nI a ∧ M.2.2.1 92 i = nI b ∧ dR M i = mkF j (dR M a) (dR M b) := by
  have hc := h.2.1
  rcases h.2.2.1 i hi with ⟨j, hj, e1, e2, e3⟩ | ⟨j, a, b, h1, h2, ha, hb, e1, e2, e3⟩
  · exact Or.inl ⟨j, hj, e1, e2, e3, dT_leaf h.2.2.1 (by omega) hi hj e1⟩
  · exact Or.inr ⟨j, a, b, h1, h2, ha, hb, e1, e2, e3, dT_node h.2.2.1 (by omega) hi h1 h2 e1 e2 e3 ha hb⟩
/-- an entry that is just what is sought stands for it, and the other way round -/
theorem FOk.at_ (h : TabR M c) {x y z : Int32} {f : Fm} (ho : FOk M c x y z f) {i : Nat} (hi : i < c) : (M.2.2.1 90 i = x ∧ M.2.2.1 91 i = y ∧ M.2.2.1 92 i = z) ↔ dR M i = f := by
  have hc := h.2.1
  rcases ho with ⟨j, hj, rfl, rfl, rfl, rfl⟩ | ⟨j, a, b, h1, h2, ha, hb, rfl, rfl, rfl, rfl⟩
  · rcases h.cases hi with ⟨q, hq, e1, e2, e3, e4⟩ | ⟨q, a', b', g1, g2, g3, g4, e1, e2, e3, e4⟩
    · rw [e4, e1, e2, e3]
      constructor
      · intro k
        rw [(nI_eq (by omega) (by omega)).mp k.1]
      · intro k
        cases k
        exact ⟨rfl, rfl, rfl⟩
    · rw [e4, e1]
      constructor
      · intro k
        have := (nI_eq (by omega) (by omega)).mp k.1
        omega
      · intro k
        exact (mkF_ne k).elim
  · rcases h.cases hi with ⟨q, hq, e1, e2, e3, e4⟩ | ⟨q, a', b', g1, g2, g3, g4, e1, e2, e3, e4⟩
    · rw [e4, e1]
      constructor
      · intro k
        have := (nI_eq (by omega) (by omega)).mp k.1
        omega
      · intro k
        exact (mkF_ne k.symm).elim
    · rw [e4, e1, e2, e3]
      constructor
      · intro k
        rw [(nI_eq (by omega) (by omega)).mp k.1, (nI_eq (by omega) (by omega)).mp k.2.1, (nI_eq (by omega) (by omega)).mp k.2.2]
      · intro k
        obtain ⟨x, y, z⟩ := mkF_inj g1 g2 h1 h2 k
        rw [x, h.inj (by omega) ha y, h.inj (by omega) hb z]
        exact ⟨rfl, rfl, rfl⟩
abbrev rfM (M : Mem) (c h : Nat) (x y z : Int32) : Mem := wI (wI (wI (wI (wI (wI M 90 c x) 91 c y) 92 c z) 93 c (M.2.2.1 94 h)) 94 h (nI c)) 89 7 (nI (c + 1))
set_option maxHeartbeats 4000000 in
theorem rform_loop (hW : Wd M) (hT : TabR M c) (n : Nat) {x y z : Int32} {f : Fm} (ho : FOk M c x y z f) {h : Nat} (h10 : h < 1024) (hh : hR x y z = nI h) (hc : c < 16384 ∨ ∃ i, i < c ∧ dR M i = f) : ∀ (w : Nat), w ≤ c → (∀ i, w ≤ i → i < c → dR M i ≠ f) →
    (∀ i, i < w → dR M i = f → lp (st_X11_formula n) (27, [.ref 89, .int x, .int y, .int z, .int (nI h), .int (pvh (HR M) 0 (nI h) w)], M) = some (nI i, M)) ∧
    ((∀ i, i < w → dR M i ≠ f) → lp (st_X11_formula n) (27, [.ref 89, .int x, .int y, .int z, .int (nI h), .int (pvh (HR M) 0 (nI h) w)], M) = some (nI c, rfM M c h x y z)) := by
  intro w
  induction w using Nat.strongRecOn with
  | ind w ih =>
    intro hw hout
    have h5 := hT.2.1
    have hm : ∀ i, i < c → dR M i = f → HR M i = nI h := fun i hi e => by
      obtain ⟨e1, e2, e3⟩ := (ho.at_ hT hi).mpr e
      unfold HR
      rw [e1, e2, e3, hh]
    rcases pvh_cases (H := HR M) (lo := 0) (h := nI h) w with ⟨e, hno⟩ | ⟨s, hs, h9, hHs, e, hno⟩
    · constructor
      · intro i hi q
        exact (hno i hi (Nat.zero_le _) (hm i (by omega) q)).elim
      · intro hnone
        have hc' : c < 16384 := hc.resolve_right (by
          rintro ⟨i, hi, q⟩
          by_cases hiw : i < w
          · exact hnone i hiw q
          · exact hout i (by omega) hi q)
        refine (ge_X11_formula_27 n 89 x y z (nI h) (pvh (HR M) 0 (nI h) w) M).trans ?_
        rw [e]
        simp (disch := omega) only [T_X11_formula_27, if_true, W_89 hW, hT.1, gd_true, fO, fA, ex_in, bnd_s, Nat.reduceLT, Nat.reduceEqDiff, up2_if, false_and, if_false, true_and, and_true, and_self, nI_z, vp_iff, nI_1, hc', h10]
        rw [nI_pred]
    · have hch : M.2.2.1 93 s = pvh (HR M) 0 (nI h) s := by rw [hT.2.2.2.2.2 s (by omega), hHs]
      have step : lp (st_X11_formula n) (27, [.ref 89, .int x, .int y, .int z, .int (nI h), .int (pvh (HR M) 0 (nI h) w)], M) = if dR M s = f then some (nI s, M) else lp (st_X11_formula n) (27, [.ref 89, .int x, .int y, .int z, .int (nI h), .int (pvh (HR M) 0 (nI h) s)], M) := by
        refine (ge_X11_formula_27 n 89 x y z (nI h) (pvh (HR M) 0 (nI h) w) M).trans ?_
        rw [e]
        simp (disch := omega) only [T_X11_formula_27, nI_ne_m1, if_false, W_89 hW, gd_true, fO, fA, ex_in, bnd_s, Nat.reduceLT, true_and, and_true, and_self, nI_z, vp_iff, hch]
        have hs' : s < 16384 := by omega
        simp only [hs', gd_true]
        by_cases q : dR M s = f
        · obtain ⟨q1, q2, q3⟩ := (ho.at_ hT (show s < c by omega)).mpr q
          rw [if_pos q1, if_pos q2, if_pos q3, if_pos q]
        · rw [if_neg q]
          have q' := fun k => q ((ho.at_ hT (show s < c by omega)).mp k)
          by_cases q1 : M.2.2.1 90 s = x
          · by_cases q2 : M.2.2.1 91 s = y
            · rw [if_pos q1, if_pos q2, if_neg (fun q3 => q' ⟨q1, q2, q3⟩)]
            · rw [if_pos q1, if_neg q2]
          · rw [if_neg q1]
      constructor
      · intro i hi q
        rw [step]
        by_cases k : dR M s = f
        · rw [if_pos k, hT.inj (by omega) (by omega) (q.trans k.symm)]
        · rw [if_neg k]
          have his : i < s := by
            apply Nat.lt_of_not_le
            intro hle
            by_cases hq : i = s
            · exact k (hq ▸ q)
            · exact hno i (by omega) hi (hm i (by omega) q)
          refine (ih s hs (by omega) (fun j a b => ?_)).1 i his q
          by_cases hjw : j < w
          · intro r
            by_cases hq : j = s
            · exact k (hq ▸ r)
            · exact hno j (by omega) hjw (hm j b r)
          · exact hout j (by omega) b
      · intro hnone
        rw [step, if_neg (hnone s hs)]
        refine (ih s hs (by omega) (fun j a b => ?_)).2 (fun i hi => hnone i (by omega))
        by_cases hjw : j < w
        · exact hnone j hjw
        · exact hout j (by omega) b
def SR (a k : Nat) : Prop := (a = 89 ∧ k = 7) ∨ a = 90 ∨ a = 91 ∨ a = 92 ∨ a = 93 ∨ a = 94
theorem hR_nI (x y z : Int32) : ∃ h, h < 1024 ∧ hR x y z = nI h := by
  obtain ⟨h, h1, h2⟩ := pk_andE ((x + (31 * y)) + (577 * z)) (m := 1023) 10 (by decide)
  exact ⟨h, h1, h2⟩
set_option maxHeartbeats 4000000 in
theorem TabR.push (hT : TabR M c) {x y z : Int32} {f : Fm} (ho : FOk M c x y z f) {h : Nat} (hc : c < 16384) (hh : hR x y z = nI h) (hh2 : h < 1024) (hno : ∀ i, i < c → dR M i ≠ f) {M1 : Mem} (hM : M1 = rfM M c h x y z) : TabR M1 (c + 1) ∧ dR M1 c = f ∧ ∀ i, i < c → dR M1 i = dR M i := by
  have h5 := hT.2.1
  have r3 : ∀ i, M1.2.2.1 90 i = if i = c then x else M.2.2.1 90 i := fun i => by subst hM; simp [up2_if]
  have r4 : ∀ i, M1.2.2.1 91 i = if i = c then y else M.2.2.1 91 i := fun i => by subst hM; simp [up2_if]
  have r5 : ∀ i, M1.2.2.1 92 i = if i = c then z else M.2.2.1 92 i := fun i => by subst hM; simp [up2_if]
  have r7 : ∀ i, M1.2.2.1 93 i = if i = c then M.2.2.1 94 h else M.2.2.1 93 i := fun i => by subst hM; simp [up2_if]
  have r9 : ∀ i, M1.2.2.1 94 i = if i = h then nI c else M.2.2.1 94 i := fun i => by subst hM; simp [up2_if]
  have r2 : M1.2.2.1 89 7 = nI (c + 1) := by subst hM; rfl
  clear hM
  have hk : ∀ i, i < c → M1.2.2.1 90 i = M.2.2.1 90 i ∧ M1.2.2.1 91 i = M.2.2.1 91 i ∧ M1.2.2.1 92 i = M.2.2.1 92 i := fun i hi => by
    rw [r3, r4, r5, if_neg (by omega), if_neg (by omega), if_neg (by omega)]
    exact ⟨rfl, rfl, rfl⟩
  have k3 : M1.2.2.1 90 c = x := by rw [r3, if_pos rfl]
  have k4 : M1.2.2.1 91 c = y := by rw [r4, if_pos rfl]
  have k5 : M1.2.2.1 92 c = z := by rw [r5, if_pos rfl]
  have tI : TbI (c + 1) (M1.2.2.1 90) (M1.2.2.1 91) (M1.2.2.1 92) := by
    rcases ho with ⟨j, hj, e1, e2, e3, -⟩ | ⟨j, a, b, h1, h2, ha, hb, e1, e2, e3, -⟩
    · exact hT.2.2.1.push0 hk hj (k3.trans e1) (k4.trans e2) (k5.trans e3)
    · exact hT.2.2.1.push hk h1 h2 ha hb (k3.trans e1) (k4.trans e2) (k5.trans e3)
  have hH : ∀ i, i < c → HR M1 i = HR M i := fun i hi => by
    obtain ⟨x, y, z⟩ := hk i hi
    unfold HR
    rw [x, y, z]
  have hHc : HR M1 c = nI h := by unfold HR; rw [k3, k4, k5, hh]
  have dold : ∀ i, i < c → dR M1 i = dR M i := fun i hi => dT_congr hT.2.2.1 (by omega) hk (i + 1) i (by omega) hi
  have dnew : dR M1 c = f := by
    rcases ho with ⟨j, hj, e1, e2, e3, rfl⟩ | ⟨j, a, b, h1, h2, ha, hb, e1, e2, e3, rfl⟩
    · exact dT_leaf tI (by omega) (by omega) hj (k3.trans e1)
    · rw [← dold a ha, ← dold b hb]
      exact dT_node tI (by omega) (by omega) h1 h2 (k3.trans e1) (k4.trans e2) (k5.trans e3) ha hb
  refine ⟨⟨r2, by omega, tI, ?_, fun q hq => ?_, fun i hi => ?_⟩, dnew, dold⟩
  · refine hT.2.2.2.1.push hk (fun i hi q => ?_)
    rw [k3, k4, k5] at q
    exact hno i hi ((ho.at_ hT hi).mp q)
  · rw [r9]
    by_cases e : q = h
    · subst e
      rw [if_pos rfl, ← hHc, pvh_same (by omega)]
    · rw [if_neg e, pvh_other (by rw [hHc]; intro x; exact e ((nI_eq (by omega) (by omega)).mp x).symm), pvh_congr hH]
      exact hT.2.2.2.2.1 q hq
  · rw [r7]
    by_cases e : i = c
    · subst e
      rw [if_pos rfl, hHc, pvh_congr hH]
      exact hT.2.2.2.2.1 h hh2
    · rw [if_neg e, hH i (by omega), pvh_congr (H := HR M) (fun j hj => hH j (by omega))]
      exact hT.2.2.2.2.2 i (by omega)
set_option maxHeartbeats 4000000 in
/-- THE MAKING in the reference -/
theorem r_formula (hW : Wd M) (hT : TabR M c) (n : Nat) {x y z : Int32} {f : Fm} (ho : FOk M c x y z f) (hc : c < 16384 ∨ ∃ i, i < c ∧ dR M i = f) :
    ∃ i c1 M1, f_X11_formula n 89 x y z M = some (nI i, M1) ∧ i < c1 ∧ c ≤ c1 ∧ c1 ≤ c + 1 ∧ TabR M1 c1 ∧ dR M1 i = f ∧ (∀ i, i < c → dR M1 i = dR M i) ∧ Fr SR M M1 ∧ ((∃ i, i < c ∧ dR M i = f) → M1 = M ∧ c1 = c) ∧ (M1 = M ∨ ∃ h, M1 = rfM M c h x y z) := by
  have h5 := hT.2.1
  obtain ⟨h, hh2, hh⟩ := hR_nI x y z
  have e0 : f_X11_formula n 89 x y z M = lp (st_X11_formula n) (27, [.ref 89, .int x, .int y, .int z, .int (nI h), .int (pvh (HR M) 0 (nI h) c)], M) := by
    refine (ge_X11_formula_0 n 89 x y z M).trans ?_
    have hx : ((x + (31 * y)) + (577 * z)) &&& 1023 = nI h := hh
    simp (disch := omega) only [T_X11_formula_0, W_89 hW, gd_true, fO, fA, ex_in, bnd_s, Nat.reduceLT, true_and, and_true, and_self, hx, nI_z, vp_iff, hh2, hT.2.2.2.2.1 h hh2]
  obtain ⟨lA, lB⟩ := rform_loop hW hT n ho hh2 hh hc c (Nat.le_refl _) (fun i a b => by omega)
  by_cases hex : ∃ i, i < c ∧ dR M i = f
  · obtain ⟨i, hi, e⟩ := hex
    exact ⟨i, c, M, e0.trans (lA i hi e), hi, Nat.le_refl _, by omega, hT, e, fun _ _ => rfl, Fr.refl, fun _ => ⟨rfl, rfl⟩, Or.inl rfl⟩
  · have hno : ∀ i, i < c → dR M i ≠ f := fun i hi q => hex ⟨i, hi, q⟩
    have hc' : c < 16384 := hc.resolve_right hex
    obtain ⟨t1, t2, t3⟩ := hT.push ho hc' hh hh2 hno rfl
    refine ⟨c, c + 1, _, e0.trans (lB hno), by omega, by omega, by omega, t1, t2, t3, ?_, fun q => (hex q).elim, Or.inr ⟨h, rfl⟩⟩
    exact (((((Fr.refl.wI (by simp [SR]) _).wI (by simp [SR]) _).wI (by simp [SR]) _).wI (by simp [SR]) _).wI (by simp [SR]) _).wI (by simp [SR]) _
end RF
