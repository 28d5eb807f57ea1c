/-! TIDIES, whole -/
section TDY
/-- the rows that hold numbers of formulas: hypotheses, goal, slots, the row worked at -/
def RowsR (M : Mem) (P : Int32 → Prop) (h : Nat) (mm : Nat → Nat) (m : Nat) : Prop := (h ≤ 6 ∧ M.2.2.1 89 15 = nI h ∧ ∀ j, j < h → P (M.2.2.1 98 j)) ∧ P (M.2.2.1 89 16) ∧ (∀ s, s < 4 → mm s ≤ 200 ∧ M.2.2.1 104 s = nI (mm s) ∧ ∀ i, i < mm s → M.2.2.1 102 (200 * s + i) = 0 ∨ M.2.2.1 103 (200 * s + i) < 0 ∨ P (M.2.2.1 103 (200 * s + i))) ∧ m ≤ 400 ∧ M.2.2.1 89 24 = nI m ∧ ∀ i, i < m → M.2.2.1 105 i = 0 ∨ M.2.2.1 106 i < 0 ∨ P (M.2.2.1 106 i)
def SmA (M M1 : Mem) (c c1 : Nat) (kd x y : Int32) : Prop := if kd = 0 ∨ x < 0 then y = x else SmR M M1 c c1 x y
/-- the same formulas by their numbers now -/
def SameR (M M1 : Mem) (c c1 : Nat) (h : Nat) (mm : Nat → Nat) (m : Nat) : Prop := (∀ j, j < h → SmR M M1 c c1 (M.2.2.1 98 j) (M1.2.2.1 98 j)) ∧ SmR M M1 c c1 (M.2.2.1 89 16) (M1.2.2.1 89 16) ∧ (∀ s, s < 4 → ∀ i, i < mm s → SmA M M1 c c1 (M.2.2.1 102 (200 * s + i)) (M.2.2.1 103 (200 * s + i)) (M1.2.2.1 103 (200 * s + i))) ∧ ∀ i, i < m → SmA M M1 c c1 (M.2.2.1 105 i) (M.2.2.1 106 i) (M1.2.2.1 106 i)
theorem SameR.refl {M : Mem} {c h m : Nat} {mm : Nat → Nat} : SameR M M c c h mm m := by
  have r : ∀ x, SmR M M c c x x := fun x v hv e => ⟨v, hv, e, rfl⟩
  have a : ∀ k x, SmA M M c c k x x := fun k x => by
    unfold SmA
    split
    · rfl
    · exact r x
  exact ⟨fun _ _ => r _, r _, fun _ _ _ _ => a _ _, fun _ _ => a _ _⟩
theorem rnA_sm {M M7 M1 : Mem} {c c1 : Nat} {kd x y : Int32} (hx : kd = 0 ∨ x < 0 ∨ IxR c x) (hy : y = rnA M7 kd x) (h : ¬ kd = 0 → ∀ v, v < c → x = nI v → ∃ u, u < c1 ∧ M7.2.2.1 95 v = nI u ∧ dR M1 u = dR M v) (hc : c ≤ 16384) : SmA M M1 c c1 kd x y := by
  unfold SmA
  unfold rnA at hy
  by_cases q1 : kd = 0
  · rw [if_pos (Or.inl q1)]
    rw [if_pos q1] at hy
    exact hy
  · rw [if_neg q1] at hy
    by_cases q2 : x < 0
    · rw [if_pos (Or.inr q2)]
      rw [if_pos q2] at hy
      exact hy
    · rw [if_neg (fun z => z.elim q1 q2)]
      rw [if_neg q2] at hy
      intro v hv e
      obtain ⟨u, u1, u2, u3⟩ := h q1 v hv e
      refine ⟨u, u1, ?_, u3⟩
      rw [hy]
      unfold rnm
      rw [e, nI_z (by omega)]
      exact u2
set_option maxHeartbeats 8000000 in
/-- TIDIES: the table may be made anew; what the rows hold stands for the same -/
theorem rx_tidies {M : Mem} (hW : Wd M) {c D : Nat} (hT : TabR M c) {h m : Nat} {mm : Nat → Nat} (hR : RowsR M (NbR M c D) h mm m) {S : Nat → Prop} (hS : ∀ i, i < c → S i → ∀ a, a < 20000 → (M.2.2.1 91 i = nI a ∨ M.2.2.1 92 i = nI a) → S a) (hRS : RowsR M (fun x => ∀ v, v < c → x = nI v → S v) h mm m) (hSk : ∀ s, s < 4 → ∀ i, i < mm s → ¬ M.2.2.1 102 (200 * s + i) = 0 → ∀ v, v < c → M.2.2.1 103 (200 * s + i) = nI v → S v) (hSw : ∀ i, i < m → ¬ M.2.2.1 105 i = 0 → ∀ v, v < c → M.2.2.1 106 i = nI v → S v) (k : Nat) : ∃ c1 M1, f_X11_tidies (D + 3 + k) 89 M = some ((), M1) ∧ Fr STd M M1 ∧ TabR M1 c1 ∧ c1 ≤ c ∧ SameR M M1 c c1 h mm m ∧ (M.2.2.1 89 8 = 0 → c1 < 8192 ∨ ∀ v, v < c1 → ∃ i, i < c ∧ S i ∧ dR M1 v = dR M i) := by
  have hc := hT.2.1
  have head : f_X11_tidies (D + 3 + k) 89 M = if M.2.2.1 89 8 = 0 then (if 8192 ≤ c then lp (st_X11_tidies (D + 3 + k)) (20, [.ref 89, .int (nI 0)], M) else some ((), M)) else some ((), M) := by
    refine (ge_X11_tidies_0 (D + 3 + k) 89 M).trans ?_
    simp (disch := omega) only [T_X11_tidies_0, W_89 hW, gd_true, fO, Nat.reduceLT, and_self, hT.1, show (8192 : Int32) = nI 8192 from rfl, nI_le_]
    rfl
  by_cases hk : M.2.2.1 89 8 = 0
  · by_cases h8 : 8192 ≤ c
    · rw [if_pos hk, if_pos h8] at head
      obtain ⟨⟨r1, r2, r3⟩, r4, r5, r6, r7, r8⟩ := hR
      obtain ⟨M2, a1, a2, a3⟩ := td_20 hW hT.1 hc (D + 3 + k) c 0 (by omega) M Fr.refl (fun u hu => by omega)
      have hW2 := a2.Wd hW
      have f2 : ∀ a, a ≠ 95 → M2.2.2.1 a = M.2.2.1 a := fun a ha => a2.ints (fun _ q => ha q)
      have hTI : TbI c (M2.2.2.1 90) (M2.2.2.1 91) (M2.2.2.1 92) := by rw [f2 90 (by omega), f2 91 (by omega), f2 92 (by omega)]; exact hT.2.2.1
      have hS2 : ∀ i, i < c → S i → ∀ a, a < 20000 → (M2.2.2.1 91 i = nI a ∨ M2.2.2.1 92 i = nI a) → S a := by rw [f2 91 (by omega), f2 92 (by omega)]; exact hS
      obtain ⟨M3, b1, b2, b3, b4⟩ := td_43 (S := S) (D := D) hW2 hTI hc hS2 r1 (by rw [f2 89 (by omega)]; exact r2) (fun j hj => by rw [f2 98 (by omega)]; exact (r3 j hj).fr a2) (by rw [f2 89 (by omega)]; exact r4.fr a2) (fun j hj => by rw [f2 98 (by omega)]; exact hRS.1.2.2 j hj) (by rw [f2 89 (by omega)]; exact hRS.2.1) k h 0 (by omega) M2 MkO.refl (fun u hu => by omega)
      obtain ⟨M4, d1, d2, d3, d4⟩ := td_77 (S := S) (D := D) hW2 hTI hc hS2 (mm := mm) (fun s hs => by
        rw [f2 104 (by omega), f2 102 (by omega), f2 103 (by omega)]
        refine ⟨(r5 s hs).1, (r5 s hs).2.1, fun i hi => ?_⟩
        rcases (r5 s hs).2.2 i hi with x | x | x
        · exact Or.inl x
        · exact Or.inr (Or.inl x)
        · exact Or.inr (Or.inr (x.fr a2))) (fun s hs i hi v hv x y => by
        rw [f2 102 (by omega)] at x
        rw [f2 103 (by omega)] at y
        exact hSk s hs i hi x v hv y) k 4 0 (by omega) M3 b2
      obtain ⟨M5, M6, e1, e2, e3, e4, e5, e6⟩ := td_154 (S := S) (D := D) hW2 hTI hc (by rw [f2 89 (by omega)]; exact hT.1) hS2 r6 (by rw [f2 89 (by omega)]; exact r7) (fun i hi => by
        rw [f2 105 (by omega), f2 106 (by omega)]
        rcases r8 i hi with x | x | x
        · exact Or.inl x
        · exact Or.inr (Or.inl x)
        · exact Or.inr (Or.inr (x.fr a2))) (fun i hi v hv x y => by
        rw [f2 105 (by omega)] at x
        rw [f2 106 (by omega)] at y
        exact hSw i hi x v hv y) k m 0 (by omega) M4 d2
      have F5 : Fr S95 M M5 := a2.trans e2.1
      have F6 : Fr STd M M6 := (F5.mono (T := STd) (fun a j q => by unfold S95 at q; unfold STd; omega)).trans (e3.mono (fun a j q => by unfold SCl at q; unfold STd; omega))
      have hW6 := F6.Wd hW
      have t6 : ∀ a, a = 90 ∨ a = 91 ∨ a = 92 → M6.2.2.1 a = M.2.2.1 a := fun a ha => (e3.ints (fun _ q => by unfold SCl at q; omega)).trans (F5.ints (fun _ q => by unfold S95 at q; omega))
      have i95 : M6.2.2.1 95 = M5.2.2.1 95 := e3.ints (by simp [SCl])
      have mk5 : ∀ i, i < c → M5.2.2.1 95 i ≠ -1 → S i ∧ PkR M2 M5 i := fun i hi hm => by
        rcases e2.2.2 i hm with x | ⟨-, x, y⟩
        · exact (x (a3 i hi)).elim
        · exact ⟨x, y⟩
      have hB : TbI c (M6.2.2.1 90) (M6.2.2.1 91) (M6.2.2.1 92) := by rw [t6 90 (by omega), t6 91 (by omega), t6 92 (by omega)]; exact hT.2.2.1
      have hdB : ∀ i, dT (M6.2.2.1 90) (M6.2.2.1 91) (M6.2.2.1 92) i = dR M i := fun i => by rw [t6 90 (by omega), t6 91 (by omega), t6 92 (by omega)]; rfl
      obtain ⟨c1, M7, g1, g2, gT, g3, -, g5, g6⟩ := rebuild_loop (kb := M6.2.2.1 90) (lb := M6.2.2.1 91) (rb := M6.2.2.1 92) (g := M6.2.2.1 95) hc hB (fun f hf hm a b ha hb ea eb => by
        rw [i95] at hm ⊢
        refine (mk5 f hf hm).2 a b ha hb ?_ ?_
        · rw [f2 91 (by omega), ← t6 91 (by omega)]; exact ea
        · rw [f2 92 (by omega), ← t6 92 (by omega)]; exact eb) (D + 2 + k) c 0 (by omega) 0 M6 hW6 ⟨e4, Nat.le_refl _, fun i _ => ⟨rfl, rfl, rfl, rfl⟩, fun i hi => by omega, fun v hv => by omega⟩
      rw [show D + 2 + k + 1 = D + 3 + k by omega] at g1
      have F7 : Fr STd M M7 := F6.trans (g2.mono (fun a j q => by unfold SRb SR at q; unfold STd; omega))
      have hW7 := F7.Wd hW
      have s7 : ∀ a j, ¬ STd a j → M7.2.2.1 a j = M.2.2.1 a j := fun a j q => F7.int q
      have s98 : ∀ j, M7.2.2.1 98 j = M.2.2.1 98 j := fun j => (g2.int (by unfold SRb SR; omega)).trans ((e3.int (by unfold SCl; omega)).trans (F5.int (by unfold S95; omega)))
      have s16 : M7.2.2.1 89 16 = M.2.2.1 89 16 := (g2.int (by unfold SRb SR; omega)).trans ((e3.int (by unfold SCl; omega)).trans (F5.int (by unfold S95; omega)))
      have s103 : ∀ j, M7.2.2.1 103 j = M.2.2.1 103 j := fun j => (g2.int (by unfold SRb SR; omega)).trans ((e3.int (by unfold SCl; omega)).trans (F5.int (by unfold S95; omega)))
      have s106 : ∀ j, M7.2.2.1 106 j = M.2.2.1 106 j := fun j => (g2.int (by unfold SRb SR; omega)).trans ((e3.int (by unfold SCl; omega)).trans (F5.int (by unfold S95; omega)))
      have ix : ∀ x, NbR M c D x → IxR c x := fun x q => by obtain ⟨v, v1, v2, -⟩ := q; exact ⟨v, v1, v2⟩
      obtain ⟨M8, u1, u2, u3, u4⟩ := td_296 (w := c) hW7 hc r1 ((s7 89 15 (by unfold STd; omega)).trans r2) (fun j hj => by rw [s98]; exact ix _ (r3 j hj)) (by rw [s16]; exact ix _ r4) (D + 3 + k) h 0 (by omega) M7 Fr.refl (fun u hu => by omega) (fun u _ => rfl)
      have hW8 := u2.Wd hW7
      have q102 : ∀ j, M8.2.2.1 102 j = M.2.2.1 102 j := fun j => (u2.int (by omega)).trans (s7 102 j (by unfold STd; omega))
      have q103 : ∀ j, M8.2.2.1 103 j = M.2.2.1 103 j := fun j => (u2.int (by omega)).trans (s103 j)
      obtain ⟨M9, v1, v2, v3⟩ := td_342 (w := c) hW8 hc (mm := mm) (fun s hs => by
        refine ⟨(r5 s hs).1, ((u2.int (by omega)).trans (s7 104 s (by unfold STd; omega))).trans (r5 s hs).2.1, fun i hi => ?_⟩
        rw [q102, q103]
        rcases (r5 s hs).2.2 i hi with x | x | x
        · exact Or.inl x
        · exact Or.inr (Or.inl x)
        · exact Or.inr (Or.inr (ix _ x))) (D + 3 + k) 4 0 (by omega) M8 Fr.refl (fun t ht => by omega)
      have hW9 := v2.Wd hW8
      have q105 : ∀ j, M9.2.2.1 105 j = M.2.2.1 105 j := fun j => (v2.int (by omega)).trans ((u2.int (by omega)).trans (s7 105 j (by unfold STd; omega)))
      have q106 : ∀ j, M9.2.2.1 106 j = M.2.2.1 106 j := fun j => (v2.int (by omega)).trans ((u2.int (by omega)).trans (s106 j))
      obtain ⟨M10, w1, w2, w3⟩ := td_432 (w := c) hW9 hc r6 ((v2.int (by omega)).trans ((u2.int (by omega)).trans ((s7 89 24 (by unfold STd; omega)).trans r7))) (fun i hi => by
        rw [q105, q106]
        rcases r8 i hi with x | x | x
        · exact Or.inl x
        · exact Or.inr (Or.inl x)
        · exact Or.inr (Or.inr (ix _ x))) (D + 3 + k) m 0 (by omega) M9 Fr.refl (fun u hu => by omega) (fun u _ => rfl)
      have F710 : Fr (fun a i => a = 98 ∨ (a = 89 ∧ i = 16) ∨ a = 103 ∨ a = 106) M7 M10 := ((u2.mono (fun a j q => by omega)).trans (v2.mono (fun a j q => by omega))).trans (w2.mono (fun a j q => by omega))
      obtain ⟨tT, tD⟩ := gT.fr F710 (by omega) (by omega) (by omega) (by omega) (by omega) (by omega)
      have root : ∀ v, v < c → M5.2.2.1 95 v ≠ -1 → ∃ u, u < c1 ∧ M7.2.2.1 95 v = nI u ∧ dR M10 u = dR M v := fun v hv hm => by
        obtain ⟨u, x1, x2, x3⟩ := g5 v hv (by rw [i95]; exact hm)
        exact ⟨u, x1, x2, by rw [tD, x3, hdB]⟩
      have r8' : ∀ x, rnm M8 x = rnm M7 x := fun x => rnm_fr u2 (by omega) x
      have r9' : ∀ x, rnm M9 x = rnm M7 x := fun x => (rnm_fr v2 (by omega) x).trans (r8' x)
      refine ⟨c1, M10, ?_, F7.trans (F710.mono (fun a j q => by unfold STd; omega)), tT, g3, ⟨fun j hj v hv e => ?_, fun v hv e => ?_, fun s hs i hi => ?_, fun i hi => ?_⟩, fun _ => Or.inr (fun v hv => ?_)⟩
      · rw [head, a1, b1, d1, e1]
        exact (g1.trans (u1.trans (v1.trans w1)))
      · obtain ⟨u, x1, x2, x3⟩ := root v hv (e5 v (d3 v (b3 j hj v hv (by rw [f2 98 (by omega)]; exact e))))
        refine ⟨u, x1, ?_, x3⟩
        rw [w2.int (by omega), v2.int (by omega), u3 j hj, s98 j, e]
        unfold rnm
        rw [nI_z (by omega)]
        exact x2
      · obtain ⟨u, x1, x2, x3⟩ := root v hv (e5 v (d3 v (b4 v hv (by rw [f2 89 (by omega)]; exact e))))
        refine ⟨u, x1, ?_, x3⟩
        rw [w2.int (by omega), v2.int (by omega), u4, s16, e]
        unfold rnm
        rw [nI_z (by omega)]
        exact x2
      · refine rnA_sm (M7 := M8) ?_ ?_ (fun hk0 v hv e => ?_) hc
        · rcases (r5 s hs).2.2 i hi with x | x | x
          · exact Or.inl x
          · exact Or.inr (Or.inl x)
          · exact Or.inr (Or.inr (ix _ x))
        · rw [w2.int (by omega), v3 s hs i hi, q102, q103]
        · obtain ⟨u, x1, x2, x3⟩ := root v hv (e5 v (d4 s (Nat.zero_le _) hs i hi (by rw [f2 102 (by omega)]; exact hk0) v hv (by rw [f2 103 (by omega)]; exact e)))
          exact ⟨u, x1, (u2.int (by omega)).trans x2, x3⟩
      · refine rnA_sm (M7 := M9) ?_ ?_ (fun hk0 v hv e => ?_) hc
        · rcases r8 i hi with x | x | x
          · exact Or.inl x
          · exact Or.inr (Or.inl x)
          · exact Or.inr (Or.inr (ix _ x))
        · rw [w3 i hi, q105, q106]
        · obtain ⟨u, x1, x2, x3⟩ := root v hv (e6 i (Nat.zero_le _) hi (by rw [f2 105 (by omega)]; exact hk0) v hv (by rw [f2 106 (by omega)]; exact e))
          exact ⟨u, x1, (v2.int (by omega)).trans ((u2.int (by omega)).trans x2), x3⟩
      · obtain ⟨i, x1, x2, x3⟩ := g6 v hv
        rw [i95] at x2
        exact ⟨i, x1, (mk5 i x1 x2).1, by rw [tD, x3, hdB]⟩
    · rw [if_pos hk, if_neg h8] at head
      exact ⟨c, M, head, Fr.refl, hT, Nat.le_refl _, SameR.refl, fun _ => Or.inl (by omega)⟩
  · rw [if_neg hk] at head
    exact ⟨c, M, head, Fr.refl, hT, Nat.le_refl _, SameR.refl, fun q => (hk q).elim⟩
end TDY
