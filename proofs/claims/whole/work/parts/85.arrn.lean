/-! ARRANGE in the class: all of it -/
section ARN
variable {tr c : Nat} {l : List (Nat × Tm)}
theorem wk_pos : ∀ t, isT t → ∀ p am, (amL am p).length + 1 ≤ (wk t p am).length := by
  apply tm_ind
  · intro k p am
    show _ ≤ (amL am p ++ [nI p]).length
    simp only [List.length_append, List.length_cons, List.length_nil]
    omega
  · intro k p am
    show _ ≤ (amL am p ++ [nI p]).length
    simp only [List.length_append, List.length_cons, List.length_nil]
    omega
  · intro o f a _ _ _ p am
    show _ ≤ (amL am p ++ (wk a (p + 1) (amN o 0) ++ [nI p])).length
    simp only [List.length_append, List.length_cons, List.length_nil]
    omega
  · intro o a b _ _ _ _ _ p am
    show _ ≤ (amL am p ++ (wk a (p + 1) 0 ++ (wk b (p + 1 + sz a) 0 ++ [nI p]))).length
    simp only [List.length_append, List.length_cons, List.length_nil]
    omega
  · intro m a b _ _ _ _ _ _ p am
    show _ ≤ (amL am p ++ (wk m (p + 1) 0 ++ (wk a (p + 1 + sz m) 1 ++ (wk b (p + 1 + sz m + sz a) 1 ++ [nI p])))).length
    simp only [List.length_append, List.length_cons, List.length_nil]
    omega
theorem ups_low {A : Nat → Nat} {M : Mem} {d q : Nat} (h : ∀ j, j < d → M.2.2.1 47 j = nI (A j)) : ∀ j, j < d → M.2.2.1 47 j = nI (ups A d q j) := fun j hj => by
  rw [ups_ne A q (by omega)]
  exact h j hj
theorem at2.eq42 {M : Mem} {p d r n : Nat} {pa : Int32} (h : at2 M p d pa r n) : M.2.2.1 42 p = nI d := h.1
set_option maxHeartbeats 2000000 in
theorem ar_main (k : Nat) : ∀ t, isT t → ∀ {p d : Nat} {pa : Int32} {r n am : Nat} {A : Nat → Nat} {u : List Nat} {W : List Int32} {M : Mem}, ArI M tr c l t p d pa r n am A u W → ArO k M t p d pa r n am A u W := by
  apply tm_ind
  · intro j p d pa r n am A u W M h
    have g := h.2.1.L
    obtain ⟨g1, g2, g3⟩ := opl_of g
    have hd := h.2.2.2.2.2.2.1
    have hc : j < d := h.2.2.2.2.2.1
    have h2 := h.1.2.2.2.2.1
    obtain ⟨M1, e1, F1, a1, n1, A1, w1⟩ := ar_leaf k g3 g1 (fun _ => Or.inl ⟨j, by omega, g2⟩) sz_L rfl h
    exact ⟨M1, e1, F1, ⟨a1, by rw [n1 j g2, A1 j hc]⟩, w1⟩
  · intro j p d pa r n am A u W M h
    have g := h.2.1.H
    obtain ⟨g1, g2, g3⟩ := opl_of g
    have hc : j < 6 := h.2.2.2.2.2.1
    obtain ⟨M1, e1, F1, a1, n1, A1, w1⟩ := ar_leaf k g3 g1 (fun _ => Or.inr ⟨j, by omega, g2⟩) sz_H rfl h
    exact ⟨M1, e1, F1, a1, w1⟩
  · intro o f a ho hta ih p d pa r n am A u W M h
    obtain ⟨g, sa⟩ := h.2.1.U
    obtain ⟨g1, g2, g3⟩ := opl_of g
    have hor := ho.rng
    have hle := sa.le
    have psa := sz_pos a hta
    have h2 := h.1.2.2.2.2.1
    have hd := h.2.2.2.2.2.2.1
    have hn := h.2.2.2.2.2.2.2.1
    have hE := h.2.2.1
    have hwp := wk_pos (tU o f a) ⟨ho, hta⟩ p am
    have hm0 := amN_le o 0
    obtain ⟨M0, p0, F0, q1, q2, q3, q4⟩ := pc_step h.1 k (p := p) (q := p + 1) (r := 0) (d := d) (n := n) g3 (by omega) (by omega) (by rw [g1, ar_U ho]; omega) h.2.2.2.1.1 h.2.2.2.1.2.2.2 (by omega) (by omega)
    have e1 : f_X3_placeChildren (k + 2) 40 (nI p) M = some ((), M0) := (pc_0 h.1 k g3).trans (p0.trans (pc_end (k + 1) (h.1.2.2.2.2.2.1.at_ g3) (by rw [g1, ar_U ho])))
    rw [g1] at q1
    obtain ⟨M2, e2, F2, L2, a2, A2, U2, w2⟩ := ar_node k (e := p + 2) g3 (by rw [g1]; omega) h (by omega) hwp e1 (F0.mono (fun a j q => ⟨q.1, by omega, by omega⟩))
    have E2 : Ed M2 a (p + 1) := (hE.2.congr a hta (fun i _ _ => F0.int (by omega))).congr a hta (fun i _ _ => F2.int (by unfold SBd SWk; omega))
    have E2p : M2.2.2.1 41 p = nI (p + 1 + sz a) := by
      rw [F2.int (by unfold SBd SWk; omega), F0.int (by omega)]
      exact hE.1
    have k2 : at2 M2 (p + 1) (d + amN o 0) (nI p) 0 (n + 1) := by
      have : at2 M0 (p + 1) (d + amN o 0) (nI p) 0 (n + 1) := ⟨q1, q2, q3, q4⟩
      exact this.mv F2 (by unfold SBd SWk; omega) (by unfold SBd SWk; omega) (by unfold SBd SWk; omega) (by unfold SBd SWk; omega)
    have hwl : W.length + (amL am p).length + (wk a (p + 1) (amN o 0)).length + (u.length + 1) ≤ 400 := by
      have := h.2.2.2.2.2.2.2.2.2.2.2.2
      rw [show wk (tU o f a) p am = amL am p ++ (wk a (p + 1) (amN o 0) ++ [nI p]) from rfl] at this
      simp only [List.length_append, List.length_cons, List.length_nil] at this
      omega
    have hI : ArI M2 tr c l a (p + 1) (d + amN o 0) (nI p) 0 (n + 1) (amN o 0) (if o = 2 then ups A d (p + 1) else A) (p :: u) (W ++ amL am p) := by
      refine ⟨L2, sa, E2, k2, Or.inr ⟨p, g3, rfl, by omega, by rw [g1]⟩, h.2.2.2.2.2.1, by omega, by omega, fun q => ?_, fun j hj => ?_, ⟨by omega, k2.2.1, ?_, U2⟩, w2, ?_⟩
      · have ho2 : o = 2 := by
          unfold amN at q
          split at q
          · assumption
          · split at q <;> omega
        rw [if_pos ho2, q, Nat.add_sub_cancel, ups_at]
        exact ⟨by omega, rfl⟩
      · rw [Nat.add_sub_cancel] at hj
        split
        · rw [ups_ne A _ (by omega)]
          exact A2 j hj
        · exact A2 j hj
      · rw [E2p, E2.at_ a hta]
      · simp only [List.length_append, List.length_cons]
        omega
    obtain ⟨M3, e3, F3, y3, w3⟩ := ih hI
    refine ⟨M3, ?_, ((F0.mono (fun a j q => Or.inl ⟨q.1, by omega, by rw [sz_U]; omega⟩)).trans (F2.mono (fun a j q => ?_))).trans (F3.mono (fun a j q => ?_)), ⟨?_, y3⟩, ?_⟩
    · rw [e2, e3, sz_U, show p + 1 + sz a = p + (sz a + 1) by omega]
    · rw [sz_U]
      unfold SBd at q
      rcases q with q | q | q
      · exact Or.inr (Or.inl ⟨q.1, by omega, by omega⟩)
      · exact Or.inr (Or.inr (Or.inl ⟨q.2.1, by omega⟩))
      · exact Or.inr (Or.inr (Or.inr q))
    · rw [sz_U]
      rw [Nat.add_sub_cancel] at q
      unfold SAr at q
      rcases q with q | q | q | q
      · exact Or.inl ⟨q.1, by omega, by omega⟩
      · exact Or.inr (Or.inl ⟨q.1, by omega, by omega⟩)
      · exact Or.inr (Or.inr (Or.inl ⟨q.1, by omega⟩))
      · exact Or.inr (Or.inr (Or.inr q))
    · exact a2.mv F3 (by unfold SAr SWk; omega) (by unfold SAr SWk; omega) (by unfold SAr SWk; omega) (by unfold SAr SWk; omega)
    · have e : W ++ (wk (tU o f a) p am ++ u.map nI) = W ++ amL am p ++ (wk a (p + 1) (amN o 0) ++ (p :: u).map nI) := by
        rw [show wk (tU o f a) p am = amL am p ++ (wk a (p + 1) (amN o 0) ++ [nI p]) from rfl]
        simp
      rw [e]
      exact w3
  · intro o a b ho hta htb ia ib p d pa r n am A u W M h
    obtain ⟨g, sa, sb⟩ := h.2.1.B
    obtain ⟨g1, g2, g3⟩ := opl_of g
    have hlea := sa.le
    have hle := sb.le
    have psa := sz_pos a hta
    have psb := sz_pos b htb
    have h2 := h.1.2.2.2.2.1
    have hd := h.2.2.2.2.2.2.1
    have hn := h.2.2.2.2.2.2.2.1
    have hE := h.2.2.1
    have hwp := wk_pos (tB o a b) ⟨ho, hta, htb⟩ p am
    have hz : ∀ r, amN o r = 0 := fun r => by
      unfold amN
      rw [if_neg (by omega), if_neg (by omega)]
    obtain ⟨M0, p0, F0, q1, q2, q3, q4⟩ := pc_step h.1 k (p := p) (q := p + 1) (r := 0) (d := d) (n := n) g3 (by omega) (by omega) (by rw [g1, ar_B ho]; omega) h.2.2.2.1.1 h.2.2.2.1.2.2.2 (by omega) (by omega)
    rw [hE.2.1.at_ a hta] at p0
    have L0 := h.1.fr F0 (fun a j q => by omega)
    have at0 := h.2.2.2.1.mv F0 (by omega) (by omega) (by omega) (by omega)
    obtain ⟨M1, p1, F1, v1, v2, v3, v4⟩ := pc_step L0 k (p := p) (q := p + 1 + sz a) (r := 1) (d := d) (n := n) g3 (by omega) (by omega) (by rw [g1, ar_B ho]; omega) at0.1 at0.2.2.2 (by omega) (by omega)
    have e1 : f_X3_placeChildren (k + 2) 40 (nI p) M = some ((), M1) := (pc_0 h.1 k g3).trans (p0.trans (p1.trans (pc_end (k + 1) (h.1.2.2.2.2.2.1.at_ g3) (by rw [g1, ar_B ho]))))
    rw [g1, hz] at q1 v1
    have F01 : Fr (fun a' j => (a' = 42 ∨ a' = 43 ∨ a' = 44 ∨ a' = 45) ∧ p < j ∧ j < p + 1 + sz a + sz b) M M1 := (F0.mono (fun a j q => ⟨q.1, by omega, by omega⟩)).trans (F1.mono (fun a j q => ⟨q.1, by omega, by omega⟩))
    obtain ⟨M2, e2, F2, L2, a2, A2, U2, w2⟩ := ar_node k g3 (by rw [g1]; omega) h (by omega) hwp e1 F01
    have i41 : ∀ i, M2.2.2.1 41 i = M.2.2.1 41 i := fun i => by
      rw [F2.int (by unfold SBd SWk; omega), F01.int (by omega)]
    have E2a : Ed M2 a (p + 1) := hE.2.1.congr a hta (fun i _ _ => i41 i)
    have E2b : Ed M2 b (p + 1 + sz a) := hE.2.2.congr b htb (fun i _ _ => i41 i)
    have E2p : M2.2.2.1 41 p = nI (p + 1 + sz a + sz b) := (i41 p).trans hE.1
    have ka : at2 M2 (p + 1) d (nI p) 0 (n + 1) := by
      have t0 : at2 M0 (p + 1) d (nI p) 0 (n + 1) := ⟨q1, q2, q3, q4⟩
      have t1 := t0.mv F1 (by omega) (by omega) (by omega) (by omega)
      exact t1.mv F2 (by unfold SBd SWk; omega) (by unfold SBd SWk; omega) (by unfold SBd SWk; omega) (by unfold SBd SWk; omega)
    have kb : at2 M2 (p + 1 + sz a) d (nI p) 1 (n + 1) := by
      have t0 : at2 M1 (p + 1 + sz a) d (nI p) 1 (n + 1) := ⟨v1, v2, v3, v4⟩
      exact t0.mv F2 (by unfold SBd SWk; omega) (by unfold SBd SWk; omega) (by unfold SBd SWk; omega) (by unfold SBd SWk; omega)
    have hwl : W.length + (amL am p).length + (wk a (p + 1) 0).length + (wk b (p + 1 + sz a) 0).length + (u.length + 1) ≤ 400 := by
      have := h.2.2.2.2.2.2.2.2.2.2.2.2
      rw [show wk (tB o a b) p am = amL am p ++ (wk a (p + 1) 0 ++ (wk b (p + 1 + sz a) 0 ++ [nI p])) from rfl] at this
      simp only [List.length_append, List.length_cons, List.length_nil] at this
      omega
    have hIa : ArI M2 tr c l a (p + 1) d (nI p) 0 (n + 1) 0 A [] (W ++ amL am p) := by
      refine ⟨L2, sa, E2a, ka, Or.inr ⟨p, g3, rfl, by omega, by rw [g1, hz]⟩, h.2.2.2.2.2.1.1, by omega, by omega, fun q => by omega, fun j hj => A2 j (by omega), Or.inr ⟨p, by omega, ka.2.1, ?_⟩, w2, ?_⟩
      · rw [E2p, E2a.at_ a hta]
        intro q
        have := (nI_eq (by omega) (by omega)).mp q
        omega
      · simp only [List.length_append, List.length_nil]
        omega
    obtain ⟨M3, e3, F3, y3, w3⟩ := ia hIa
    have L3 := L2.fr F3 (fun _ _ q => q.lo)
    have kb3 := kb.mv F3 (by unfold SAr SWk; omega) (by unfold SAr SWk; omega) (by unfold SAr SWk; omega) (by unfold SAr SWk; omega)
    have E3b : Ed M3 b (p + 1 + sz a) := E2b.congr b htb (fun i _ _ => F3.int (by unfold SAr SWk; omega))
    have E3p : M3.2.2.1 41 p = nI (p + 1 + sz a + sz b) := by
      rw [F3.int (by unfold SAr SWk; omega)]
      exact E2p
    have w3' : wkC M3 (W ++ amL am p ++ wk a (p + 1) 0) := by
      simpa using w3
    have hIb : ArI M3 tr c l b (p + 1 + sz a) d (nI p) 1 (n + 1) 0 A (p :: u) (W ++ amL am p ++ wk a (p + 1) 0) := by
      refine ⟨L3, sb, E3b, kb3, Or.inr ⟨p, g3, rfl, by omega, by rw [g1, hz]⟩, h.2.2.2.2.2.1.2, by omega, by omega, fun q => by omega, fun j hj => ?_, ⟨by omega, kb3.2.1, ?_, ?_⟩, w3', ?_⟩
      · rw [F3.int (by unfold SAr SWk; omega)]
        exact A2 j (by omega)
      · rw [E3p, E3b.at_ b htb]
      · exact U2.mv F3 (fun j hj => by unfold SAr SWk; omega)
      · simp only [List.length_append, List.length_cons]
        omega
    obtain ⟨M4, e4, F4, y4, w4⟩ := ib hIb
    refine ⟨M4, ?_, (((F01.mono (fun a' j q => Or.inl ⟨q.1, by omega, by rw [sz_B]; omega⟩)).trans (F2.mono (fun a' j q => ?_))).trans (F3.mono (fun a' j q => ?_))).trans (F4.mono (fun a' j q => ?_)), ⟨?_, ?_, y4⟩, ?_⟩
    · rw [e2, e3, e4, sz_B, show p + 1 + sz a + sz b = p + (sz a + sz b + 1) by omega]
    · rw [sz_B]
      unfold SBd at q
      rcases q with q | q | q
      · exact Or.inr (Or.inl ⟨q.1, by omega, by omega⟩)
      · exact Or.inr (Or.inr (Or.inl ⟨q.2.1, by omega⟩))
      · exact Or.inr (Or.inr (Or.inr q))
    · rw [sz_B]
      unfold SAr at q
      rcases q with q | q | q | q
      · exact Or.inl ⟨q.1, by omega, by omega⟩
      · exact Or.inr (Or.inl ⟨q.1, by omega, by omega⟩)
      · exact Or.inr (Or.inr (Or.inl ⟨q.1, by omega⟩))
      · exact Or.inr (Or.inr (Or.inr q))
    · rw [sz_B]
      unfold SAr at q
      rcases q with q | q | q | q
      · exact Or.inl ⟨q.1, by omega, by omega⟩
      · exact Or.inr (Or.inl ⟨q.1, by omega, by omega⟩)
      · exact Or.inr (Or.inr (Or.inl ⟨q.1, by omega⟩))
      · exact Or.inr (Or.inr (Or.inr q))
    · exact (a2.mv F3 (by unfold SAr SWk; omega) (by unfold SAr SWk; omega) (by unfold SAr SWk; omega) (by unfold SAr SWk; omega)).mv F4 (by unfold SAr SWk; omega) (by unfold SAr SWk; omega) (by unfold SAr SWk; omega) (by unfold SAr SWk; omega)
    · exact y3.congr a hta (fun a' i h1 h2 h3 h4 => F4.int (by unfold SAr SWk; omega))
    · have e : W ++ (wk (tB o a b) p am ++ u.map nI) = W ++ amL am p ++ wk a (p + 1) 0 ++ (wk b (p + 1 + sz a) 0 ++ (p :: u).map nI) := by
        rw [show wk (tB o a b) p am = amL am p ++ (wk a (p + 1) 0 ++ (wk b (p + 1 + sz a) 0 ++ [nI p])) from rfl]
        simp
      rw [e]
      exact w4
  · intro m a b htm hta htb im ia ib p d pa r n am A u W M h
    obtain ⟨g, sm, sa, sb⟩ := h.2.1.C
    obtain ⟨g1, g2, g3⟩ := opl_of g
    have hlem := sm.le
    have hlea := sa.le
    have hle := sb.le
    have psm := sz_pos m htm
    have psa := sz_pos a hta
    have psb := sz_pos b htb
    have h2 := h.1.2.2.2.2.1
    have hd := h.2.2.2.2.2.2.1
    have hn := h.2.2.2.2.2.2.2.1
    have hE := h.2.2.1
    have hwp := wk_pos (tC m a b) ⟨htm, hta, htb⟩ p am
    obtain ⟨M0, p0, F0, q1, q2, q3, q4⟩ := pc_step h.1 k (p := p) (q := p + 1) (r := 0) (d := d) (n := n) g3 (by omega) (by omega) (by rw [g1]; decide) h.2.2.2.1.1 h.2.2.2.1.2.2.2 (by omega) (by omega)
    rw [hE.2.1.at_ m htm] at p0
    have L0 := h.1.fr F0 (fun a j q => by omega)
    have at0 := h.2.2.2.1.mv F0 (by omega) (by omega) (by omega) (by omega)
    obtain ⟨M1, p1, F1, v1, v2, v3, v4⟩ := pc_step L0 k (p := p) (q := p + 1 + sz m) (r := 1) (d := d) (n := n) g3 (by omega) (by omega) (by rw [g1]; decide) at0.1 at0.2.2.2 (by omega) (by omega)
    have ea0 : M0.2.2.1 41 (p + 1 + sz m) = nI (p + 1 + sz m + sz a) := by
      rw [F0.int (by omega)]
      exact hE.2.2.1.at_ a hta
    rw [ea0] at p1
    have L1 := L0.fr F1 (fun a j q => by omega)
    have at1 := at0.mv F1 (by omega) (by omega) (by omega) (by omega)
    obtain ⟨N1, p2, F1b, x1, x2, x3, x4⟩ := pc_step L1 k (p := p) (q := p + 1 + sz m + sz a) (r := 2) (d := d) (n := n) g3 (by omega) (by omega) (by rw [g1]; decide) at1.1 at1.2.2.2 (by omega) (by omega)
    have e1 : f_X3_placeChildren (k + 2) 40 (nI p) M = some ((), N1) := (pc_0 h.1 k g3).trans (p0.trans (p1.trans (p2.trans (pc_end (k + 1) (h.1.2.2.2.2.2.1.at_ g3) (by rw [g1]; rfl)))))
    rw [g1] at q1 v1 x1
    replace q1 : M0.2.2.1 42 (p + 1) = nI d := q1
    replace v1 : M1.2.2.1 42 (p + 1 + sz m) = nI (d + 1) := v1
    replace x1 : N1.2.2.1 42 (p + 1 + sz m + sz a) = nI (d + 1) := x1
    have F01 : Fr (fun a' j => (a' = 42 ∨ a' = 43 ∨ a' = 44 ∨ a' = 45) ∧ p < j ∧ j < p + 1 + sz m + sz a + sz b) M N1 := ((F0.mono (fun a j q => ⟨q.1, by omega, by omega⟩)).trans (F1.mono (fun a j q => ⟨q.1, by omega, by omega⟩))).trans (F1b.mono (fun a j q => ⟨q.1, by omega, by omega⟩))
    obtain ⟨M2, e2, F2, L2, a2, A2, U2, w2⟩ := ar_node k g3 (by rw [g1]; omega) h (by omega) hwp e1 F01
    have i41 : ∀ i, M2.2.2.1 41 i = M.2.2.1 41 i := fun i => by
      rw [F2.int (by unfold SBd SWk; omega), F01.int (by omega)]
    have E2m : Ed M2 m (p + 1) := hE.2.1.congr m htm (fun i _ _ => i41 i)
    have E2a : Ed M2 a (p + 1 + sz m) := hE.2.2.1.congr a hta (fun i _ _ => i41 i)
    have E2b : Ed M2 b (p + 1 + sz m + sz a) := hE.2.2.2.congr b htb (fun i _ _ => i41 i)
    have E2p : M2.2.2.1 41 p = nI (p + 1 + sz m + sz a + sz b) := (i41 p).trans hE.1
    have km : at2 M2 (p + 1) d (nI p) 0 (n + 1) := by
      have t0 : at2 M0 (p + 1) d (nI p) 0 (n + 1) := ⟨q1, q2, q3, q4⟩
      have t1 := (t0.mv F1 (by omega) (by omega) (by omega) (by omega)).mv F1b (by omega) (by omega) (by omega) (by omega)
      exact t1.mv F2 (by unfold SBd SWk; omega) (by unfold SBd SWk; omega) (by unfold SBd SWk; omega) (by unfold SBd SWk; omega)
    have ka : at2 M2 (p + 1 + sz m) (d + 1) (nI p) 1 (n + 1) := by
      have t0 : at2 M1 (p + 1 + sz m) (d + 1) (nI p) 1 (n + 1) := ⟨v1, v2, v3, v4⟩
      have t1 := t0.mv F1b (by omega) (by omega) (by omega) (by omega)
      exact t1.mv F2 (by unfold SBd SWk; omega) (by unfold SBd SWk; omega) (by unfold SBd SWk; omega) (by unfold SBd SWk; omega)
    have kb : at2 M2 (p + 1 + sz m + sz a) (d + 1) (nI p) 2 (n + 1) := by
      have t0 : at2 N1 (p + 1 + sz m + sz a) (d + 1) (nI p) 2 (n + 1) := ⟨x1, x2, x3, x4⟩
      exact t0.mv F2 (by unfold SBd SWk; omega) (by unfold SBd SWk; omega) (by unfold SBd SWk; omega) (by unfold SBd SWk; omega)
    have hwl : W.length + (amL am p).length + (wk m (p + 1) 0).length + (wk a (p + 1 + sz m) 1).length + (wk b (p + 1 + sz m + sz a) 1).length + (u.length + 1) ≤ 400 := by
      have := h.2.2.2.2.2.2.2.2.2.2.2.2
      rw [show wk (tC m a b) p am = amL am p ++ (wk m (p + 1) 0 ++ (wk a (p + 1 + sz m) 1 ++ (wk b (p + 1 + sz m + sz a) 1 ++ [nI p]))) from rfl] at this
      simp only [List.length_append, List.length_cons, List.length_nil] at this
      omega
    have hIm : ArI M2 tr c l m (p + 1) d (nI p) 0 (n + 1) 0 A [] (W ++ amL am p) := by
      refine ⟨L2, sm, E2m, km, Or.inr ⟨p, g3, rfl, by omega, by rw [g1]; rfl⟩, h.2.2.2.2.2.1.1, by omega, by omega, fun q => by omega, fun j hj => A2 j (by omega), Or.inr ⟨p, by omega, km.2.1, ?_⟩, w2, ?_⟩
      · rw [E2p, E2m.at_ m htm]
        intro q
        have := (nI_eq (by omega) (by omega)).mp q
        omega
      · simp only [List.length_append, List.length_nil]
        omega
    obtain ⟨M3, e3, F3, y3, w3⟩ := im hIm
    have L3 := L2.fr F3 (fun _ _ q => q.lo)
    have ka3 := ka.mv F3 (by unfold SAr SWk; omega) (by unfold SAr SWk; omega) (by unfold SAr SWk; omega) (by unfold SAr SWk; omega)
    have kb3 := kb.mv F3 (by unfold SAr SWk; omega) (by unfold SAr SWk; omega) (by unfold SAr SWk; omega) (by unfold SAr SWk; omega)
    have j41 : ∀ i, M3.2.2.1 41 i = M2.2.2.1 41 i := fun i => F3.int (by unfold SAr SWk; omega)
    have E3a : Ed M3 a (p + 1 + sz m) := E2a.congr a hta (fun i _ _ => j41 i)
    have E3b : Ed M3 b (p + 1 + sz m + sz a) := E2b.congr b htb (fun i _ _ => j41 i)
    have E3p : M3.2.2.1 41 p = nI (p + 1 + sz m + sz a + sz b) := (j41 p).trans E2p
    have w3' : wkC M3 (W ++ amL am p ++ wk m (p + 1) 0) := by
      simpa using w3
    have A3 : ∀ j, j < d → M3.2.2.1 47 j = nI (A j) := fun j hj => by
      rw [F3.int (by unfold SAr SWk; omega)]
      exact A2 j hj
    have U3 : UpC M3 p u := U2.mv F3 (fun j hj => by unfold SAr SWk; omega)
    have hIa : ArI M3 tr c l a (p + 1 + sz m) (d + 1) (nI p) 1 (n + 1) 1 (ups A d (p + 1 + sz m)) [] (W ++ amL am p ++ wk m (p + 1) 0) := by
      refine ⟨L3, sa, E3a, ka3, Or.inr ⟨p, g3, rfl, by omega, by rw [g1]; rfl⟩, h.2.2.2.2.2.1.2.1, by omega, by omega, fun q => ⟨by omega, by rw [Nat.add_sub_cancel, ups_at]⟩, fun j hj => ?_, Or.inr ⟨p, by omega, ka3.2.1, ?_⟩, w3', ?_⟩
      · rw [Nat.add_sub_cancel] at hj
        exact ups_low A3 j hj
      · rw [E3p, E3a.at_ a hta]
        intro q
        have := (nI_eq (by omega) (by omega)).mp q
        omega
      · simp only [List.length_append, List.length_nil]
        omega
    obtain ⟨M4, e4, F4, y4, w4⟩ := ia hIa
    rw [Nat.add_sub_cancel] at F4
    have L4 := L3.fr F4 (fun _ _ q => q.lo)
    have kb4 := kb3.mv F4 (by unfold SAr SWk; omega) (by unfold SAr SWk; omega) (by unfold SAr SWk; omega) (by unfold SAr SWk; omega)
    have k41 : ∀ i, M4.2.2.1 41 i = M3.2.2.1 41 i := fun i => F4.int (by unfold SAr SWk; omega)
    have E4b : Ed M4 b (p + 1 + sz m + sz a) := E3b.congr b htb (fun i _ _ => k41 i)
    have E4p : M4.2.2.1 41 p = nI (p + 1 + sz m + sz a + sz b) := (k41 p).trans E3p
    have w4' : wkC M4 (W ++ amL am p ++ wk m (p + 1) 0 ++ wk a (p + 1 + sz m) 1) := by
      simpa using w4
    have A4 : ∀ j, j < d → M4.2.2.1 47 j = nI (A j) := fun j hj => by
      rw [F4.int (by unfold SAr SWk; omega)]
      exact A3 j hj
    have U4 : UpC M4 p u := U3.mv F4 (fun j hj => by unfold SAr SWk; omega)
    have hIb : ArI M4 tr c l b (p + 1 + sz m + sz a) (d + 1) (nI p) 2 (n + 1) 1 (ups A d (p + 1 + sz m + sz a)) (p :: u) (W ++ amL am p ++ wk m (p + 1) 0 ++ wk a (p + 1 + sz m) 1) := by
      refine ⟨L4, sb, E4b, kb4, Or.inr ⟨p, g3, rfl, by omega, by rw [g1]; rfl⟩, h.2.2.2.2.2.1.2.2, by omega, by omega, fun q => ⟨by omega, by rw [Nat.add_sub_cancel, ups_at]⟩, fun j hj => ?_, ⟨by omega, kb4.2.1, ?_, U4⟩, w4', ?_⟩
      · rw [Nat.add_sub_cancel] at hj
        exact ups_low A4 j hj
      · rw [E4p, E4b.at_ b htb]
      · simp only [List.length_append, List.length_cons]
        omega
    obtain ⟨M5, e5, F5, y5, w5⟩ := ib hIb
    rw [Nat.add_sub_cancel] at F5
    have hmono : ∀ (x y : Nat), p + 1 ≤ x → y ≤ p + sz (tC m a b) → ∀ a' j, SAr x y d a' j → SAr p (p + sz (tC m a b)) (d - am) a' j := fun x y hx hy a' j q => by
      unfold SAr at q ⊢
      rcases q with q | q | q | q
      · exact Or.inl ⟨q.1, by omega, by omega⟩
      · exact Or.inr (Or.inl ⟨q.1, by omega, by omega⟩)
      · exact Or.inr (Or.inr (Or.inl ⟨q.1, by omega⟩))
      · exact Or.inr (Or.inr (Or.inr q))
    refine ⟨M5, ?_, ((((F01.mono (fun a' j q => Or.inl ⟨q.1, by omega, by rw [sz_C]; omega⟩)).trans (F2.mono (fun a' j q => ?_))).trans (F3.mono (hmono _ _ (by omega) (by rw [sz_C]; omega)))).trans (F4.mono (hmono _ _ (by omega) (by rw [sz_C]; omega)))).trans (F5.mono (hmono _ _ (by omega) (by rw [sz_C]; omega))), ⟨?_, ?_, ?_, y5⟩, ?_⟩
    · rw [e2, e3, e4, e5, sz_C, show p + 1 + sz m + sz a + sz b = p + (sz m + sz a + sz b + 1) by omega]
    · rw [sz_C]
      unfold SBd at q
      rcases q with q | q | q
      · exact Or.inr (Or.inl ⟨q.1, by omega, by omega⟩)
      · exact Or.inr (Or.inr (Or.inl ⟨q.2.1, by omega⟩))
      · exact Or.inr (Or.inr (Or.inr q))
    · exact ((a2.mv F3 (by unfold SAr SWk; omega) (by unfold SAr SWk; omega) (by unfold SAr SWk; omega) (by unfold SAr SWk; omega)).mv F4 (by unfold SAr SWk; omega) (by unfold SAr SWk; omega) (by unfold SAr SWk; omega) (by unfold SAr SWk; omega)).mv F5 (by unfold SAr SWk; omega) (by unfold SAr SWk; omega) (by unfold SAr SWk; omega) (by unfold SAr SWk; omega)
    · exact (y3.congr m htm (M1 := M4) (fun a' i h1 h2 h3 h4 => F4.int (by unfold SAr SWk; omega))).congr m htm (fun a' i h1 h2 h3 h4 => F5.int (by unfold SAr SWk; omega))
    · exact y4.congr a hta (fun a' i h1 h2 h3 h4 => F5.int (by unfold SAr SWk; omega))
    · have e : W ++ (wk (tC m a b) p am ++ u.map nI) = W ++ amL am p ++ wk m (p + 1) 0 ++ wk a (p + 1 + sz m) 1 ++ (wk b (p + 1 + sz m + sz a) 1 ++ (p :: u).map nI) := by
        rw [show wk (tC m a b) p am = amL am p ++ (wk m (p + 1) 0 ++ (wk a (p + 1 + sz m) 1 ++ (wk b (p + 1 + sz m + sz a) 1 ++ [nI p]))) from rfl]
        simp
      rw [e]
      exact w5
def SAg (a k : Nat) : Prop := (41 ≤ a ∧ a ≤ 47) ∨ a = 49 ∨ (a = 40 ∧ k = 12)
set_option maxHeartbeats 1000000 in
/-- ARRANGE -/
theorem c_arrange {M : Mem} (hW : Wd M) (hT : TOb tr) {t : Tm} (ht : isT t) (hR : RowC M tr c (rws t)) (hc : scp t 0) (k : Nat) : ∃ M1, f_X3_arrange (k + 3) 40 tr M = some ((), M1) ∧ Fq SAg M M1 ∧ LtC M1 tr c (rws t) ∧ Ed M1 t 0 ∧ Ly M1 t 0 0 (-1) 0 1 (fun _ => 0) ∧ wkC M1 (wk t 0 0) := by
  have h2 := hR.2.1
  have psz := sz_pos t ht
  have t1 := (TO_at hW hT).1
  have t6 := (TO_at hW hT).2.2.2.2.2.1
  have Fz : Fq SAg M (wR M 40 2 (some tr)) := Fq.refl.wR (Or.inl ⟨rfl, rfl⟩) _
  have Lz : LtC (wR M 40 2 (some tr)) tr c (rws t) := ⟨Fz.Wd hW, by simp [up2_if], hT, hR.mv rfl rfl rfl (fun _ _ => rfl) (Nat.le_refl _)⟩
  obtain ⟨M1, e1, F1, d1⟩ := en_main (k + 2) t ht Lz Sb.self
  have L1 := Lz.fr F1 (fun _ _ q => q.lo)
  rw [Nat.zero_add] at e1
  have e0 : f_X3_arrange (k + 3) 40 tr M = lp (st_X3_arrange (k + 3)) (15, [.ref 40, .int (pm (sz t))], wR M 40 2 (some tr)) := by
    refine (ge_X3_arrange_0 (k + 3) 40 tr M).trans ?_
    have hh : up2 M.2.2.2.2 40 2 (some tr) 40 2 = some tr := by simp [up2_if]
    simp (disch := omega) only [T_X3_arrange_0, W_40 hW, gd_true, fO, Nat.reduceLT, and_self, hh, bnd_s, t1, t6, hW.1, hR.1, pm_sub]
    rfl
  have e2 : lp (st_X3_arrange (k + 3)) (15, [.ref 40, .int (pm 0)], M1) = lp (st_X3_arrange (k + 3)) (73, [.ref 40], M1) := by
    refine (ge_X3_arrange_15 (k + 3) 40 (pm 0) M1).trans ?_
    simp only [T_X3_arrange_15, show (pm 0 < (0 : Int32)) = True from eq_true (by decide), if_true]
  have F2 : Fr (fun a k => (42 ≤ a ∧ a ≤ 45 ∧ k = 0) ∨ (a = 40 ∧ k = 12)) M1 (wI (wI (wI (wI (wI M1 43 0 (-1)) 44 0 0) 45 0 1) 42 0 0) 40 12 0) := ((((Fr.refl.wI (Or.inl ⟨by omega, by omega, rfl⟩) _).wI (Or.inl ⟨by omega, by omega, rfl⟩) _).wI (Or.inl ⟨by omega, by omega, rfl⟩) _).wI (Or.inl ⟨by omega, by omega, rfl⟩) _).wI (Or.inr ⟨rfl, rfl⟩) _
  have e3 : lp (st_X3_arrange (k + 3)) (73, [.ref 40], M1) = lp (st_X3_arrange (k + 3)) (108, [.ref 40, .int (nI 0)], wI (wI (wI (wI (wI M1 43 0 (-1)) 44 0 0) 45 0 1) 42 0 0) 40 12 0) := by
    refine (ge_X3_arrange_73 (k + 3) 40 M1).trans ?_
    have hv : vp_in (0 : Int32) 200 := vp_nI (i := 0) (by omega) (by omega)
    simp (disch := omega) only [T_X3_arrange_73, W_40 L1.1, gd_true, fO, fA, ex_in, bnd_s, Nat.reduceLT, true_and, and_self, hv]
    rfl
  have L2 := L1.fr F2 (fun a j q => by omega)
  have hwl := wk_len t ht 0 0
  have hI : ArI (wI (wI (wI (wI (wI M1 43 0 (-1)) 44 0 0) 45 0 1) 42 0 0) 40 12 0) tr c (rws t) t 0 0 (-1) 0 1 0 (fun _ => 0) [] [] := by
    refine ⟨L2, Sb.self, d1.congr t ht (fun i _ _ => F2.int (by omega)), ⟨by simp [up2_if]; rfl, by simp [up2_if], by simp [up2_if]; rfl, by simp [up2_if]; rfl⟩, Or.inl ⟨rfl, rfl⟩, hc, Nat.le_refl _, by omega, fun q => by omega, fun j hj => by omega, Or.inl (by simp [up2_if]), ⟨by simp [up2_if]; rfl, by simp, fun i x q => by simp at q⟩, ?_⟩
    simp only [List.length_nil]
    unfold sz at hwl
    omega
  obtain ⟨M3, e4, F3, y3, w3⟩ := ar_main k t ht hI
  have L3 := L2.fr F3 (fun _ _ q => q.lo)
  have e5 : lp (st_X3_arrange (k + 3)) (108, [.ref 40, .int (nI (0 + sz t))], M3) = some ((), M3) := by
    refine (ge_X3_arrange_108 (k + 3) 40 _ M3).trans ?_
    have h20 : sz t ≤ 200 := h2
    have u1 := (TO_at L3.1 hT).1
    have hlen : M3.2.2.1 tr 2 = nI (sz t) := L3.2.2.2.1
    simp (disch := omega) only [T_X3_arrange_108, W_40 L3.1, L3.2.1, gd_true, fO, bnd_s, Nat.reduceLT, and_self, u1, t6, hlen, nI_le_]
    rw [if_pos (by omega)]
  refine ⟨M3, ?_, ((Fz.trans (F1.q.mono (fun a j q => ?_))).trans (F2.q.mono (fun a j q => ?_))).trans (F3.q.mono (fun a j q => ?_)), L3, ?_, y3, ?_⟩
  · rw [e0, e1, e2, e3, e4, e5]
  · have := q.1
    exact Or.inl (by omega)
  · unfold SAg
    omega
  · unfold SAr SWk at q
    unfold SAg
    omega
  · exact (d1.congr t ht (fun i _ _ => F2.int (by omega))).congr t ht (fun i _ _ => F3.int (by unfold SAr SWk; omega))
  · simpa using w3
end ARN
