/-! ALL CALLS KEEP THE INVARIANT; and how it begins -/
theorem jn_wd {k : Nat} {M : Mem} (h : Jn k M) : Wd M := by
  obtain ⟨c, cR, b, L, H, gf, T, ks, hC, -⟩ := h
  exact hC.1.1
theorem jn_good : Good Jn := fun k M hk h => ⟨fO_0 (jn_wd h), h.up, fun a b c d e => j_feed h a b c d e, fun a => j_hypotheses hk h a, fun a => j_goal hk h a, fun a b => j_proof hk h a b, fun a => j_fault h a, fun a => j_drop h a, fun a => j_count h a, fun a b c => j_hypothesis h a b c, fun a => j_goalByte h a, fun a b c => j_spell h a b c, fun a b => j_length h a b, fun a b => j_size hk h a b, fun a b => j_redexes h a b, fun a => j_step h a, fun a => j_normal h a, fun a => j_trace h a, fun a b c d => j_cut h a b c d, fun a => j_lines h a, fun a b c => j_line h a b c, fun a b c => j_lineByte h a b c, fun a b => j_equal h a b, fun a b => j_alike h a b, fun a => j_side h a, j_provable hk h, fun a => j_bySide hk h a, j_classical hk h, j_against hk h⟩
set_option maxRecDepth 100000 in
theorem z0_refs : ∀ q ∈ RF, q ∈ Lj133 := by decide +kernel
set_option maxRecDepth 100000 in
theorem z0_3 : ∀ i, i < 9 → fs42 3 i = nI i ∧ fs42 4 i = -1 ∧ fs42 5 i = -1 := by decide +kernel
set_option maxRecDepth 100000 in
theorem z0_9 : ∀ h, h < 1024 → fs42 9 h = -1 := by decide +kernel
set_option maxRecDepth 100000 in
theorem z0_94 : ∀ h, h < 1024 → fs42 94 h = if h = 416 then 0 else -1 := by decide +kernel
theorem z0_8 (i : Nat) : fs42 8 i = 0 := by
  simp only [fs42, fs41, fs40, fs39, fs38, fs37, fs36, fs35, fs34, fs33, fs32, fs31, fs30, fs29, fs28, fs27, fs26, fs25, fs24, fs23, fs22, fs21, fs20, fs19, fs18, fs17, fs16, fs15, fs14, fs13, fs12, fs11, fs10, fs9, fs8, fs7, fs6, fs5, fs4, fs3, fs2, fs1, fs0, up2_if, fH, Nat.reduceEqDiff, false_and, if_false]
set_option maxRecDepth 100000 in
theorem z0_15 : ∀ w, w < 22 → gs31 15 w = lN (pkb (wch w) (wlen w)) := by decide +kernel
set_option maxRecDepth 100000 in
theorem z0_6 : ∀ i, i < 9 → gs31 6 i = Int64.ofNat (blen (.arg i)) := by decide +kernel
set_option maxRecDepth 100000 in
theorem z0_sl : ∀ s, s < 4 → fs42 (25 + 3 * s) 2 = 0 ∧ fs42 104 s = 0 := by decide +kernel
set_option maxRecDepth 100000 in
theorem z0_c : fs42 2 7 = nI 9 ∧ fs42 2 8 = nI 0 ∧ fs42 10 3 = nI 0 ∧ fs42 0 16 = nI 0 ∧ fs42 0 17 = nI 1 ∧ fs42 0 1 = nI 0 ∧ fs42 0 15 = nI 0 ∧ fs42 14 17 = fs42 89 32 ∧ fs42 14 18 = fs42 89 33 := by decide +kernel
set_option maxRecDepth 100000 in
theorem z0_r : fs42 89 7 = nI 1 ∧ fs42 90 0 = nI 0 ∧ fs42 91 0 = -1 ∧ fs42 92 0 = -1 ∧ fs42 93 0 = -1 ∧ fs42 89 15 = nI 0 ∧ fs42 89 16 = nI 0 ∧ fs42 89 27 = nI 0 ∧ fs42 89 47 = nI 0 ∧ fs42 89 24 = nI 0 ∧ fs42 89 8 = 0 := by decide +kernel
theorem z0_h : hR (nI 0) (-1) (-1) = nI 416 := by decide +kernel
theorem pvh_no {H : Nat → Int32} {h : Int32} : ∀ n, n ≤ 9 → pvh H 9 h n = -1 := fun n hn => by
  rcases pvh_cases (H := H) (lo := 9) (h := h) n with q | ⟨j, h1, h2, -⟩
  · exact q.1
  · omega
set_option maxHeartbeats 2000000 in
theorem jn_0 {M : Mem} (h : Cw 126 Lj133 fs42 gs31 M) : Jn 0 M := by
  have ev : ∀ {a : Nat} (k : Nat), a < 126 → M.2.2.1 a k = fs42 a k := fun {a} k ha => h.2.2.2.1 a k ha
  have el : ∀ {a : Nat} (k : Nat), a < 126 → M.2.2.2.1 a k = gs31 a k := fun {a} k ha => h.2.2.2.2.1 a k ha
  have hW : Wd M := ⟨h.1, h.2.1, fun q hq => (h.2.2.1 q (z0_refs q hq)).2⟩
  obtain ⟨c1, c2, c3, c4, c5, c6, c7, c8, c9⟩ := z0_c
  obtain ⟨r1, r2, r3, r4, r5, r6, r7, r8, r9, r10, r11⟩ := z0_r
  have tI : TbI 9 (M.2.2.1 3) (M.2.2.1 4) (M.2.2.1 5) := fun i hi => Or.inl ⟨i, hi, (ev i (by omega)).trans (z0_3 i hi).1, (ev i (by omega)).trans (z0_3 i hi).2.1, (ev i (by omega)).trans (z0_3 i hi).2.2⟩
  have k3 : ∀ i, i < 9 → M.2.2.1 3 i = nI i := fun i hi => (ev i (by omega)).trans (z0_3 i hi).1
  have dl : ∀ i, i < 9 → dC M i = .arg i := fun i hi => dT_leaf tI (by omega) hi hi (k3 i hi)
  have hT : TabC M 9 := ⟨(ev 7 (by omega)).trans c1, ⟨Nat.le_refl _, by omega⟩, tI, fun i j hi hj e _ _ => by
    rw [k3 i hi, k3 j hj] at e
    exact (nI_eq (by omega) (by omega)).mp e, k3, fun i h1 h2 => by omega, fun h hh => by rw [pvh_no 9 (Nat.le_refl _)]; exact (ev h (by omega)).trans (z0_9 h hh), fun i h1 h2 => by omega, fun i hi => by rw [dl i hi]; exact (el i (by omega)).trans (z0_6 i hi)⟩
  have n90 : M.2.2.1 90 0 = nI 0 := (ev 0 (by omega)).trans r2
  have n91 : M.2.2.1 91 0 = -1 := (ev 0 (by omega)).trans r3
  have n92 : M.2.2.1 92 0 = -1 := (ev 0 (by omega)).trans r4
  have tR : TbI 1 (M.2.2.1 90) (M.2.2.1 91) (M.2.2.1 92) := fun i hi => by
    have e : i = 0 := by omega
    subst e
    exact Or.inl ⟨0, by omega, n90, n91, n92⟩
  have dr : dR M 0 = .arg 0 := dT_leaf tR (by omega) (by omega) (by omega) n90
  have hH : HR M 0 = nI 416 := by unfold HR; rw [n90, n91, n92]; exact z0_h
  have hTR : TabR M 1 := ⟨(ev 7 (by omega)).trans r1, by omega, tR, fun i j hi hj _ _ _ => by omega, fun h hh => by
    rw [(ev h (show 94 < 126 by omega)).trans (z0_94 h hh)]
    show _ = if 0 ≤ 0 ∧ HR M 0 = nI h then nI 0 else -1
    rw [hH]
    by_cases e : h = 416
    · rw [if_pos e, if_pos ⟨Nat.le_refl _, by rw [e]⟩]
      rfl
    · rw [if_neg e, if_neg (fun q => e ((nI_eq (by omega) (by omega)).mp q.2).symm)], fun i hi => by
    have e : i = 0 := by omega
    subst e
    exact (ev 0 (by omega)).trans r5⟩
  have hin : Inn M 9 (.arg 0) := ⟨0, by omega, dl 0 (by omega)⟩
  refine ⟨9, 1, fun _ => 0, 0, [], .arg 0, fun _ => none, [], ⟨⟨hW, fun w hw => (el w (by omega)).trans (z0_15 w hw), hT, ⟨(ev 3 (by omega)).trans c3, by decide, fun j hj => absurd hj (Nat.not_lt_zero _)⟩, ⟨0, by omega, (ev 16 (by omega)).trans c4, dl 0 (by omega), (ev 17 (by omega)).trans c5⟩, fun s hs => ⟨fun _ => (ev 2 (by omega)).trans (z0_sl s hs).1, fun t q => (by cases q)⟩, 60, 63, Or.inl ⟨rfl, rfl⟩, ?_, ?_⟩, ⟨(ev 1 (by omega)).trans c6, by omega, fun i hi => absurd hi (Nat.not_lt_zero _)⟩, ⟨(ev 15 (by omega)).trans c7, by decide, fun i x q => (by cases q)⟩⟩, ⟨⟨hW, hTR, ⟨(ev 15 (by omega)).trans r6, by decide, fun j hj => absurd hj (Nat.not_lt_zero _)⟩, ⟨0, by omega, (ev 16 (by omega)).trans r7, dr⟩, fun s hs => ⟨fun _ => (ev s (by omega)).trans (z0_sl s hs).2, fun t q => (by cases q)⟩, fun _ => .arg 0, fun i h1 h2 => Or.inl (by
    have e : i = 0 := by omega
    subst e
    rw [dr]
    exact hin)⟩, ⟨(ev 27 (by omega)).trans r8, by omega, fun i hi => absurd hi (Nat.not_lt_zero _)⟩, ⟨(ev 47 (by omega)).trans r9, by decide, fun i x q => (by cases q)⟩, ⟨0, by omega, (ev 24 (by omega)).trans r10, fun i hi => absurd hi (Nat.not_lt_zero _)⟩, (ev 8 (by omega)).trans r11⟩, ⟨fun x hx => absurd hx (by simp), ⟨⟨⟨hin, by decide⟩, by decide, by decide⟩, fun s t hs q => (by cases q)⟩, fun s t hs q => (by cases q)⟩, ⟨?_, ?_⟩, by omega, 0, by omega, (ev 8 (by omega)).trans c2, fun i hi => ⟨0, by omega, (ev i (by omega)).trans (z0_8 i)⟩⟩
  · exact (h.2.2.1 (53, 3, 60) (by decide +kernel)).2
  · exact (h.2.2.1 (53, 4, 63) (by decide +kernel)).2
  · rw [ev 17 (by omega), ev 32 (by omega)]; exact c8
  · rw [ev 18 (by omega), ev 33 (by omega)]; exact c9
