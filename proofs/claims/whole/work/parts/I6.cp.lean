/-! PARTS in the class: how many are marked -/
noncomputable def cP (S : Nat → Prop) : Nat → Nat
  | 0 => 0
  | z + 1 => itc (S z) (cP S z + 1) (cP S z)
section CP6
variable {S R : Nat → Prop}
theorem cP_y {z : Nat} (h : S z) : cP S (z + 1) = cP S z + 1 := itc_pos h
theorem cP_n {z : Nat} (h : ¬ S z) : cP S (z + 1) = cP S z := itc_neg h
theorem cP_iff : ∀ z, (∀ v, v < z → (S v ↔ R v)) → cP S z = cP R z := by
  intro z
  induction z with
  | zero => intro _; rfl
  | succ z ih =>
    intro h
    have e := ih (fun v hv => h v (by omega))
    by_cases q : S z
    · rw [cP_y q, cP_y ((h z (by omega)).mp q), e]
    · rw [cP_n q, cP_n (fun g => q ((h z (by omega)).mpr g)), e]
theorem cP_mono : ∀ d z, cP S z ≤ cP S (z + d) := by
  intro d
  induction d with
  | zero => intro z; exact Nat.le_refl _
  | succ d ih =>
    intro z
    have := ih z
    by_cases q : S (z + d)
    · rw [← Nat.add_assoc, cP_y q]; omega
    · rw [← Nat.add_assoc, cP_n q]; exact this
theorem cP_le {a b : Nat} (h : a ≤ b) : cP S a ≤ cP S b := by
  obtain ⟨d, rfl⟩ : ∃ d, b = a + d := ⟨b - a, by omega⟩
  exact cP_mono d a
theorem cP_lt {v z : Nat} (h : S v) (hv : v < z) : cP S v < cP S z := by
  have := cP_le (S := S) (show v + 1 ≤ z by omega)
  rw [cP_y h] at this
  omega
theorem cP_inj {u v : Nat} (hu : S u) (hv : S v) (e : cP S u = cP S v) : u = v := by
  rcases Nat.lt_trichotomy u v with h | h | h
  · have := cP_lt hu h; omega
  · exact h
  · have := cP_lt hv h; omega
theorem cP_inv : ∀ z i, i < cP S z → ∃ v, v < z ∧ S v ∧ cP S v = i := by
  intro z
  induction z with
  | zero => intro i h; exact absurd h (Nat.not_lt_zero _)
  | succ z ih =>
    intro i h
    by_cases q : S z
    · rw [cP_y q] at h
      by_cases e : i = cP S z
      · exact ⟨z, by omega, q, e.symm⟩
      · obtain ⟨v, h1, h2, h3⟩ := ih i (by omega)
        exact ⟨v, by omega, h2, h3⟩
    · rw [cP_n q] at h
      obtain ⟨v, h1, h2, h3⟩ := ih i h
      exact ⟨v, by omega, h2, h3⟩
end CP6
/-- the parts of a formula, as a row -/
def prl : Fm → List Fm
  | .add a b => .add a b :: (prl a ++ prl b)
  | .mul a b => .mul a b :: (prl a ++ prl b)
  | .sub a b => .sub a b :: (prl a ++ prl b)
  | f => [f]
theorem prl_len (f : Fm) : (prl f).length = wdf f := by
  induction f with
  | add a b ia ib => show (prl a ++ prl b).length + 1 = 1 + wdf a + wdf b; rw [List.length_append, ia, ib]; omega
  | mul a b ia ib => show (prl a ++ prl b).length + 1 = 1 + wdf a + wdf b; rw [List.length_append, ia, ib]; omega
  | sub a b ia ib => show (prl a ++ prl b).length + 1 = 1 + wdf a + wdf b; rw [List.length_append, ia, ib]; omega
  | _ => rfl
theorem prl_mem {g : Fm} (f : Fm) : prt g f → g ∈ prl f := by
  induction f with
  | add a b ia ib =>
    intro h
    rcases h with h | h | h
    · rw [h]; exact List.mem_cons_self
    · exact List.mem_cons_of_mem _ (List.mem_append_left _ (ia h))
    · exact List.mem_cons_of_mem _ (List.mem_append_right _ (ib h))
  | mul a b ia ib =>
    intro h
    rcases h with h | h | h
    · rw [h]; exact List.mem_cons_self
    · exact List.mem_cons_of_mem _ (List.mem_append_left _ (ia h))
    · exact List.mem_cons_of_mem _ (List.mem_append_right _ (ib h))
  | sub a b ia ib =>
    intro h
    rcases h with h | h | h
    · rw [h]; exact List.mem_cons_self
    · exact List.mem_cons_of_mem _ (List.mem_append_left _ (ia h))
    · exact List.mem_cons_of_mem _ (List.mem_append_right _ (ib h))
  | _ =>
    intro h
    have h : g = _ := h
    rw [h]
    exact List.mem_cons_self
def hpl : List (Nat × Fm) → List Fm
  | [] => []
  | x :: l => prl x.2 ++ hpl l
theorem hpl_len : ∀ (H : List (Nat × Fm)), (∀ x, x ∈ H → wdf x.2 ≤ 60) → (hpl H).length ≤ 60 * H.length := by
  intro H
  induction H with
  | nil => intro _; exact Nat.le_refl _
  | cons x H ih =>
    intro h
    have h1 := h x List.mem_cons_self
    have h2 := ih (fun y hy => h y (List.mem_cons_of_mem _ hy))
    show (prl x.2 ++ hpl H).length ≤ 60 * (H.length + 1)
    rw [List.length_append, prl_len]
    omega
theorem hpl_mem {g : Fm} : ∀ (H : List (Nat × Fm)) x, x ∈ H → prt g x.2 → g ∈ hpl H := by
  intro H
  induction H with
  | nil => intro x hx; exact absurd hx (by simp)
  | cons y H ih =>
    intro x hx hp
    rcases List.mem_cons.mp hx with rfl | hx
    · exact List.mem_append_left _ (prl_mem _ hp)
    · exact List.mem_append_right _ (ih x hx hp)
/-- not too many parts -/
theorem parts_420 {M : Mem} {c : Nat} (hT : TabC M c) {H : List (Nat × Fm)} {gf : Fm} (h6 : H.length ≤ 6) (hH : ∀ x, x ∈ H → wdf x.2 ≤ 60) (hg : wdf gf ≤ 60) : cP (fun v => StF H gf (dC M v)) c ≤ 420 := by
  have hl := hpl_len H hH
  have hpr := prl_len gf
  have hlen : (prl gf ++ hpl H).length ≤ 420 := by rw [List.length_append]; omega
  have ch : ∀ i, ∃ j, i < cP (fun v => StF H gf (dC M v)) c → j < (prl gf ++ hpl H).length ∧ ∃ v, v < c ∧ StF H gf (dC M v) ∧ cP (fun v => StF H gf (dC M v)) v = i ∧ (prl gf ++ hpl H)[j]? = some (dC M v) := by
    intro i
    by_cases hi : i < cP (fun v => StF H gf (dC M v)) c
    · obtain ⟨v, v1, v2, v3⟩ := cP_inv c i hi
      have hmem : dC M v ∈ prl gf ++ hpl H := by
        rcases v2 with g | ⟨j, hj, g⟩
        · exact List.mem_append_left _ (prl_mem _ g)
        · exact List.mem_append_right _ (hpl_mem H _ (List.getElem_mem hj) g)
      obtain ⟨j, hj, ej⟩ := List.getElem_of_mem hmem
      exact ⟨j, fun _ => ⟨hj, v, v1, v2, v3, by rw [List.getElem?_eq_getElem hj, ej]⟩⟩
    · exact ⟨0, fun q => absurd q hi⟩
  obtain ⟨g, hg2⟩ := Classical.axiomOfChoice ch
  have := php (prl gf ++ hpl H).length (cP (fun v => StF H gf (dC M v)) c) g (fun i hi => (hg2 i hi).1) (fun i j hi hj e => by
    obtain ⟨-, v, v1, v2, v3, v4⟩ := hg2 i hi
    obtain ⟨-, u, u1, u2, u3, u4⟩ := hg2 j hj
    rw [e, u4] at v4
    have := hT.inj u1 v1 (Option.some.inj v4)
    subst this
    rw [← v3, ← u3])
  omega
section MP6
variable {M M1 : Mem} {c s : Nat}
set_option maxHeartbeats 1000000 in
/-- the loop that marks the parts, with the number that it answers -/
theorem mp_loop2 {U : Fm → Prop} (hU : ∀ j a b, 9 ≤ j → j ≤ 11 → U (mkF j a b) → U a ∧ U b) (n : Nat) : ∀ z, ∀ (M : Mem) (P : Fm → Prop) (m : Nat), Wd M → TabC M c → z ≤ c → MkS M c s P → (∀ v, v < c → P (dC M v) → U (dC M v)) → (∀ v, v < c → z ≤ v → P (dC M v) → ∀ j a b, 9 ≤ j → j ≤ 11 → dC M v = mkF j a b → P a ∧ P b) → ∃ M1 P1, lp (st_X1_markParts (n + 1)) (9, [.ref 2, .int (nI m), .int (if z = 0 then -1 else nI (z - 1))], M) = some (nI (m + cP (fun v => P1 (dC M v)) z), M1) ∧ Fr S28 M M1 ∧ MkS M1 c s P1 ∧ (∀ g, P g → P1 g) ∧ (∀ v, v < c → P1 (dC M v) → U (dC M v)) ∧ (∀ v, v < c → P1 (dC M v) → ∀ j a b, 9 ≤ j → j ≤ 11 → dC M v = mkF j a b → P1 a ∧ P1 b) ∧ ∀ v, v < c → z ≤ v → P1 (dC M v) → P (dC M v) := by
  intro z
  induction z with
  | zero =>
    intro M P m hW hT hz hS hPU hcl
    refine ⟨M, P, ?_, Fr.refl, hS, fun _ q => q, hPU, fun v hv => hcl v hv (Nat.zero_le _), fun _ _ _ q => q⟩
    rw [if_pos rfl]
    refine (ge_X1_markParts_9 (n + 1) 2 (nI m) (-1) M).trans ?_
    unfold T_X1_markParts_9
    simp only [show ((-1 : Int32) < 0) = True from eq_true (by decide), ↓reduceIte]
    rfl
  | succ z ih =>
    intro M P m hW hT hz hS hPU hcl
    have hc := hT.2.1
    rw [if_neg (by omega), Nat.add_sub_cancel]
    have hn0 : (nI z < (0 : Int32)) = False := nI_lt0 (by omega)
    have g1 : ∀ (M : Mem), lp (st_X1_markParts (n + 1)) (9, [.ref 2, .int (nI m), .int (nI z)], M) = _ := fun M => ge_X1_markParts_9 (n + 1) 2 (nI m) (nI z) M
    have hdn : nI z + (-1) = (if z = 0 then -1 else nI (z - 1)) := by
      cases z with
      | zero => rfl
      | succ z => rw [nI_m1, if_neg (by omega), Nat.add_sub_cancel]
    have fA3 : fA M 8 1 (nI z) := fA_8 hW (by omega)
    have fA4 : fA M 4 1 (nI z) := ⟨by rw [hW.1]; omega, 5200, s_4 hW, vp_nI (by omega) (by omega)⟩
    by_cases q : M.2.2.1 8 z = nI s
    · have hP := (hS.2.2.2 z (by omega)).mp q
      have q' : (M.2.2.1 8 z = nI s) = True := eq_true q
      have both : ∃ w1 w2 M1 M2 P2, f_X1_mark n 2 (M.2.2.1 4 z) M = some (w1, M1) ∧ f_X1_mark n 2 (M.2.2.1 5 z) M1 = some (w2, M2) ∧ Fr S28 M M1 ∧ Fr S28 M1 M2 ∧ MkS M2 c s P2 ∧ (∀ g, P g → P2 g) ∧ (∀ v, v < c → P2 (dC M v) → U (dC M v)) ∧ (∀ v, v < c → z ≤ v → P2 (dC M v) → ∀ j a b, 9 ≤ j → j ≤ 11 → dC M v = mkF j a b → P2 a ∧ P2 b) ∧ ∀ v, v < c → z ≤ v → P2 (dC M v) → P (dC M v) := by
        by_cases h9 : z < 9
        · have e := hT.leaf h9
          rcases hT.2.2.1 z (by omega) with ⟨j, hj, e1, e2, e3⟩ | ⟨j, a, b, h1, h2, ha, hb, e1, e2, e3⟩
          · refine ⟨0, 0, M, M, P, by rw [e2]; exact c_mark1 n, by rw [e3]; exact c_mark1 n, Fr.refl, Fr.refl, hS, fun _ g => g, hPU, fun v hv hvz hPv j a b j1 j2 ej => ?_, fun _ _ _ q => q⟩
            by_cases ev : v = z
            · subst ev
              rw [e] at ej
              exact (mkF_ne ej.symm).elim
            · exact hcl v hv (by omega) hPv j a b j1 j2 ej
          · have := hT.2.2.2.2.1 z h9
            rw [e1] at this
            have := (nI_eq (by omega) (by omega)).mp this
            omega
        · obtain ⟨j, a, b, j1, j2, ha, hb, e1, e2, e3, e4⟩ := hT.node (by omega) (show z < c by omega)
          obtain ⟨w1, M1, y1, F1, S1, -, -⟩ := c_mark hW hT hS n (show a < c by omega)
          obtain ⟨T1, d1⟩ := hT.s28 F1
          obtain ⟨w2, M2, y2, F2, S2, -, -⟩ := c_mark (F1.Wd hW) T1 S1 n (show b < c by omega)
          rw [d1] at S2
          have hUz := hPU z (by omega) hP
          rw [e4] at hUz
          obtain ⟨ua, ub⟩ := hU j _ _ j1 j2 hUz
          refine ⟨w1, w2, M1, M2, _, by rw [e2]; exact y1, by rw [e3]; exact y2, F1, F2, S2, fun g hg => Or.inl (Or.inl hg), fun v hv hv2 => ?_, fun v hv hvz hPv i x y i1 i2 ev => ?_, fun v hv hvz hPv => ?_⟩
          · rcases hv2 with (g | g) | g
            · exact hPU v hv g
            · rw [g]; exact ua
            · rw [g]; exact ub
          · by_cases evz : v = z
            · subst evz
              rw [e4] at ev
              obtain ⟨-, ex, ey⟩ := mkF_inj j1 j2 i1 i2 ev
              rw [← ex, ← ey]
              exact ⟨Or.inl (Or.inr rfl), Or.inr rfl⟩
            · rcases hPv with (g | g) | g
              · obtain ⟨pa, pb⟩ := hcl v hv (by omega) g i x y i1 i2 ev
                exact ⟨Or.inl (Or.inl pa), Or.inl (Or.inl pb)⟩
              · have := hT.inj hv (show a < c by omega) g; omega
              · have := hT.inj hv (show b < c by omega) g; omega
          · rcases hPv with (g | g) | g
            · exact g
            · have := hT.inj hv (show a < c by omega) g; omega
            · have := hT.inj hv (show b < c by omega) g; omega
      obtain ⟨w1, w2, M1, M2, P2, y1, y2, F1, F2, S2, b1, b2, b3, b4⟩ := both
      have F12 := F1.trans F2
      obtain ⟨T2, d2⟩ := hT.s28 F12
      have hW1 := F1.Wd hW
      have hW2 := F12.Wd hW
      have fA5 : fA M1 5 1 (nI z) := ⟨by rw [hW1.1]; omega, 5200, s_5 hW1, vp_nI (by omega) (by omega)⟩
      have i5 : M1.2.2.1 5 z = M.2.2.1 5 z := F1.int (by unfold S28; omega)
      obtain ⟨M3, P3, e3, F3, S3, c1, c2, c3, c4⟩ := ih M2 P2 (m + 1) hW2 T2 (by omega) S2 (fun v hv => by rw [d2]; exact b2 v hv) (fun v hv hvz => by rw [d2]; exact b3 v hv hvz)
      have ed : (fun v => P3 (dC M2 v)) = fun v => P3 (dC M v) := by funext v; rw [d2]
      rw [ed] at e3
      refine ⟨M3, P3, ?_, F12.trans F3, S3, fun g hg => c1 g (b1 g hg), fun v hv => by rw [← d2]; exact c2 v hv, fun v hv => by rw [← d2]; exact c3 v hv, fun v hv hvz g => b4 v hv (by omega) (by have := c4 v hv (by omega); rw [d2] at this; exact this g)⟩
      rw [g1]
      unfold T_X1_markParts_9
      simp (disch := omega) only [hn0, ↓reduceIte, ↓gd_pos (fO_2 hW), ↓bnd_of (r_2_5 hW), ↓gd_pos fA3, nI_z, hS.2.1, q', ↓bnd_of (r_2_1 hW), ↓gd_pos fA4, ↓bnd2_of (show cal (n + 1) (fun zz => f_X1_mark zz 2 (M.2.2.1 4 z) M) = _ from y1), ↓gd_pos (fO_2 hW1), ↓bnd_of (r_2_2 hW1), ↓gd_pos fA5, i5, ↓bnd2_of (show cal (n + 1) (fun zz => f_X1_mark zz 2 (M.2.2.1 5 z) M1) = _ from y2), hdn, nI_1]
      rw [cP_y (S := fun v => P3 (dC M v)) (c1 _ (b1 _ hP)), show m + (cP (fun v => P3 (dC M v)) z + 1) = m + 1 + cP (fun v => P3 (dC M v)) z by omega]
      exact e3
    · have q' : (M.2.2.1 8 z = nI s) = False := eq_false q
      obtain ⟨M3, P3, e3, F3, S3, c1, c2, c3, c4⟩ := ih M P m hW hT (by omega) hS hPU (fun v hv hvz hPv => by
        by_cases ev : v = z
        · subst ev
          exact absurd ((hS.2.2.2 v hv).mpr hPv) q
        · exact hcl v hv (by omega) hPv)
      refine ⟨M3, P3, ?_, F3, S3, c1, c2, c3, fun v hv hvz => c4 v hv (by omega)⟩
      rw [g1]
      unfold T_X1_markParts_9
      simp (disch := omega) only [hn0, ↓reduceIte, ↓gd_pos (fO_2 hW), ↓bnd_of (r_2_5 hW), ↓gd_pos fA3, nI_z, hS.2.1, q', hdn]
      rw [cP_n (S := fun v => P3 (dC M v)) (fun g => q ((hS.2.2.2 z (by omega)).mpr (c4 z (by omega) (Nat.le_refl _) g)))]
      exact e3
end MP6
