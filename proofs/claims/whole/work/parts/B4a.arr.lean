/-! ARRANGE, and the references it leaves -/
section ARS
variable {tr c : Nat} {l : List (Nat × Tm)}
set_option maxHeartbeats 1000000 in
/-- ARRANGE -/
theorem c_arrangeR {M : Mem} (hW : Wd M) (hT : TOb tr) {t : Tm} (ht : isT t) (hR : RowC M tr c (rws t)) (hc : scp t 0) (k : Nat) : ∃ M1, f_X3_arrange (k + 3) 40 tr M = some ((), M1) ∧ Fq SAg M M1 ∧ LtC M1 tr c (rws t) ∧ Ed M1 t 0 ∧ Ly M1 t 0 0 (-1) 0 1 (fun _ => 0) ∧ wkC M1 (wk t 0 0) ∧ ∀ a k, a ≠ 40 → M1.2.2.2.2 a k = M.2.2.2.2 a k := by
  have h2 := hR.2.1
  have psz := sz_pos t ht
  have t1 := (TO_at hW hT).1
  have t6 := (TO_at hW hT).2.2.2.2.2.1
  have Fz : Fq SAg M (wR M 40 2 (some tr)) := Fq.refl.wR (Or.inl ⟨rfl, rfl⟩) _
  have Lz : LtC (wR M 40 2 (some tr)) tr c (rws t) := ⟨Fz.Wd hW, by simp [up2_if], hT, hR.mv rfl rfl rfl (fun _ _ => rfl) (Nat.le_refl _)⟩
  obtain ⟨M1, e1, F1, d1⟩ := en_main (k + 2) t ht Lz Sb.self
  have L1 := Lz.fr F1 (fun _ _ q => q.lo)
  rw [Nat.zero_add] at e1
  have e0 : f_X3_arrange (k + 3) 40 tr M = lp (st_X3_arrange (k + 3)) (15, [.ref 40, .int (pm (sz t))], wR M 40 2 (some tr)) := by
    refine (ge_X3_arrange_0 (k + 3) 40 tr M).trans ?_
    have hh : up2 M.2.2.2.2 40 2 (some tr) 40 2 = some tr := by simp [up2_if]
    simp (disch := omega) only [T_X3_arrange_0, W_40 hW, gd_true, fO, Nat.reduceLT, and_self, hh, bnd_s, t1, t6, hW.1, hR.1, pm_sub]
    rfl
  have e2 : lp (st_X3_arrange (k + 3)) (15, [.ref 40, .int (pm 0)], M1) = lp (st_X3_arrange (k + 3)) (73, [.ref 40], M1) := by
    refine (ge_X3_arrange_15 (k + 3) 40 (pm 0) M1).trans ?_
    simp only [T_X3_arrange_15, show (pm 0 < (0 : Int32)) = True from eq_true (by decide), if_true]
  have F2 : Fr (fun a k => (42 ≤ a ∧ a ≤ 45 ∧ k = 0) ∨ (a = 40 ∧ k = 12)) M1 (wI (wI (wI (wI (wI M1 43 0 (-1)) 44 0 0) 45 0 1) 42 0 0) 40 12 0) := ((((Fr.refl.wI (Or.inl ⟨by omega, by omega, rfl⟩) _).wI (Or.inl ⟨by omega, by omega, rfl⟩) _).wI (Or.inl ⟨by omega, by omega, rfl⟩) _).wI (Or.inl ⟨by omega, by omega, rfl⟩) _).wI (Or.inr ⟨rfl, rfl⟩) _
  have e3 : lp (st_X3_arrange (k + 3)) (73, [.ref 40], M1) = lp (st_X3_arrange (k + 3)) (108, [.ref 40, .int (nI 0)], wI (wI (wI (wI (wI M1 43 0 (-1)) 44 0 0) 45 0 1) 42 0 0) 40 12 0) := by
    refine (ge_X3_arrange_73 (k + 3) 40 M1).trans ?_
    have hv : vp_in (0 : Int32) 200 := vp_nI (i := 0) (by omega) (by omega)
    simp (disch := omega) only [T_X3_arrange_73, W_40 L1.1, gd_true, fO, fA, ex_in, bnd_s, Nat.reduceLT, true_and, and_self, hv]
    rfl
  have L2 := L1.fr F2 (fun a j q => by omega)
  have hwl := wk_len t ht 0 0
  have hI : ArI (wI (wI (wI (wI (wI M1 43 0 (-1)) 44 0 0) 45 0 1) 42 0 0) 40 12 0) tr c (rws t) t 0 0 (-1) 0 1 0 (fun _ => 0) [] [] := by
    refine ⟨L2, Sb.self, d1.congr t ht (fun i _ _ => F2.int (by omega)), ⟨by simp [up2_if]; rfl, by simp [up2_if], by simp [up2_if]; rfl, by simp [up2_if]; rfl⟩, Or.inl ⟨rfl, rfl⟩, hc, Nat.le_refl _, by omega, fun q => by omega, fun j hj => by omega, Or.inl (by simp [up2_if]), ⟨by simp [up2_if]; rfl, by simp, fun i x q => by simp at q⟩, ?_⟩
    simp only [List.length_nil]
    unfold sz at hwl
    omega
  obtain ⟨M3, e4, F3, y3, w3⟩ := ar_main k t ht hI
  have L3 := L2.fr F3 (fun _ _ q => q.lo)
  have e5 : lp (st_X3_arrange (k + 3)) (108, [.ref 40, .int (nI (0 + sz t))], M3) = some ((), M3) := by
    refine (ge_X3_arrange_108 (k + 3) 40 _ M3).trans ?_
    have h20 : sz t ≤ 200 := h2
    have u1 := (TO_at L3.1 hT).1
    have hlen : M3.2.2.1 tr 2 = nI (sz t) := L3.2.2.2.1
    simp (disch := omega) only [T_X3_arrange_108, W_40 L3.1, L3.2.1, gd_true, fO, bnd_s, Nat.reduceLT, and_self, u1, t6, hlen, nI_le_]
    rw [if_pos (by omega)]
  refine ⟨M3, ?_, ((Fz.trans (F1.q.mono (fun a j q => ?_))).trans (F2.q.mono (fun a j q => ?_))).trans (F3.q.mono (fun a j q => ?_)), L3, ?_, y3, ?_, fun a k ha => ?_⟩
  · rw [e0, e1, e2, e3, e4, e5]
  · have := q.1
    exact Or.inl (by omega)
  · unfold SAg
    omega
  · unfold SAr SWk at q
    unfold SAg
    omega
  · exact (d1.congr t ht (fun i _ _ => F2.int (by omega))).congr t ht (fun i _ _ => F3.int (by unfold SAr SWk; omega))
  · simpa using w3
  · rw [F3.2.2.1, F2.2.2.1, F1.2.2.1]
    simp [up2_if, ha]
end ARS
