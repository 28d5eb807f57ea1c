/-! READING A TERM in the class: one thing that is wanted -/
def RtS (M : Mem) (c : Nat) (b : Nat → Nat) (n : Nat) (H : List (Nat × Fm)) (sc : List Nat) (l : List (Nat × Tm)) (pls P : List Nat) (p : Nat) : Prop := Wd M ∧ TxC M b n ∧ TabC M c ∧ HyC M 10 c H ∧ (RowC M 37 c l ∧ M.2.2.1 37 3 = 0) ∧ (PcC M pls ∧ pls.length = l.length) ∧ ScC M sc ∧ PlC M P ∧ (M.2.2.1 14 11 = nI p ∧ p ≤ n) ∧ M.2.2.1 14 17 = 0 ∧ M.2.2.1 14 18 = -1
def SRt (a k : Nat) : Prop := SF a k ∨ (a = 14 ∧ (k = 6 ∨ k = 8 ∨ k = 11 ∨ k = 12 ∨ k = 13 ∨ k = 14 ∨ k = 15 ∨ k = 16 ∨ k = 17 ∨ k = 18)) ∨ (20 ≤ a ∧ a ≤ 23) ∨ SO 37 a k
/-- a fault is kept -/
def FlC (M1 : Mem) (e : Nat × Nat) : Prop := M1.2.2.1 14 17 = nI e.1 ∧ M1.2.2.1 14 18 = nI e.2
section RTG
variable {M M1 : Mem} {c c1 : Nat} {b : Nat → Nat} {n : Nat} {H : List (Nat × Fm)} {sc : List Nat} {l : List (Nat × Tm)} {pls P : List Nat} {p : Nat}
/-- what a frame leaves of all this -/
theorem RtS.wd (h : RtS M c b n H sc l pls P p) : Wd M := h.1
theorem row37_mv {S : Nat → Nat → Prop} (h : RowC M 37 c l ∧ M.2.2.1 37 3 = 0) (hF : Fr S M M1) (hS : ∀ a k, S a k → ¬ (37 ≤ a ∧ a ≤ 39)) (hd : ∀ i, i < c → dC M1 i = dC M i) (hc : c ≤ c1) : RowC M1 37 c1 l ∧ M1.2.2.1 37 3 = 0 := ⟨h.1.mv (hF.int (fun q => hS _ _ q (by omega))) (hF.ints (fun k q => hS _ _ q (by omega))) (hF.ints (fun k q => hS _ _ q (by omega))) hd hc, (hF.int (fun q => hS _ _ q (by omega))).trans h.2⟩
theorem tab_mv {S : Nat → Nat → Prop} (h : TabC M c) (hF : Fr S M M1) (hS : ∀ a k, S a k → 10 ≤ a) : TabC M1 c ∧ ∀ i, dC M1 i = dC M i := h.fr hF (fun q => by have := hS _ _ q; omega) (fun k q => by have := hS _ _ q; omega) (fun k q => by have := hS _ _ q; omega) (fun k q => by have := hS _ _ q; omega) (fun k q => by have := hS _ _ q; omega) (fun k q => by have := hS _ _ q; omega) (fun k q => by have := hS _ _ q; omega)
theorem x3_is (hp : p ≤ n) : (13 ≤ tw b n p ∧ tw b n p ≤ 21 → cod b n p - 11 = nI (tw b n p - 11)) ∧ (¬ (13 ≤ tw b n p ∧ tw b n p ≤ 21) → cod b n p - 11 < 2) := by
  have key : ∀ w, w < 22 → (13 ≤ w → nI w - 11 = nI (w - 11)) ∧ (¬ 13 ≤ w → nI w - 11 < 2) := by decide +kernel
  rcases cod_neg b n p hp with ⟨h1, h2, h3, h4⟩ | ⟨h1, h2, h3⟩
  · constructor
    · intro hw
      rw [h2, if_neg (by omega)]
      exact (key _ (by omega)).1 hw.1
    · intro hw
      rw [h2]
      split
      · decide
      · exact (key _ (by omega)).2 (by omega)
  · constructor
    · intro hw; omega
    · intro _
      rcases h2 with h2 | h2
      · rw [h2]; decide
      · rw [h2]; decide
theorem mgI_ne {nm : Nat} (h24 : sc.length ≤ 24) (hH : H.length ≤ 6) {t : Tm} (h : mng sc H nm = some t) : ¬ mgI (mng sc H nm) = 24 ∧ mgI (mng sc H nm) = nv t := by
  rw [h]
  refine ⟨?_, rfl⟩
  unfold mng at h
  rcases lstI_is sc nm sc.length with ⟨e, -⟩ | ⟨i, h1, -, e, -⟩
  · rw [e] at h
    rcases fstI_is H nm H.length 0 with ⟨e2, -⟩ | ⟨i, -, h1, -, e2, -⟩
    · rw [e2] at h; cases h
    · rw [e2] at h
      cases h
      show ¬ (-1 - nI i = 24)
      have key : ∀ i, i < 6 → ¬ (-1 - nI i = 24) := by decide +kernel
      exact key i (by omega)
  · rw [e] at h
    cases h
    show ¬ (nI i = 24)
    intro q
    have := (nI_eq (b := 24) (by omega) (by omega)).mp q
    omega
set_option maxHeartbeats 2000000 in
theorem c_first (h : RtS M c b n H sc l pls P p) (hl : l.length ≤ 120) (hPl : P.length + 7 ≤ 854) (k : Nat) :
    (∀ e, (isN b n p ∧ rdN (mng sc H (nmAt b n p)) l.length (tq b n p) (te b n p) = .inl e) ∨ (¬ isN b n p ∧ ((¬ (13 ≤ tw b n p ∧ tw b n p ≤ 21) ∧ e = (1, tq b n p)) ∨ ((13 ≤ tw b n p ∧ tw b n p ≤ 21) ∧ 120 ≤ l.length ∧ e = (4, tq b n p)))) → ∃ M1, f_X6_readFirstWord (k + 3) 14 10 37 M = some (0, M1) ∧ Fr SRt M M1 ∧ TabC M1 c ∧ (∀ i, dC M1 i = dC M i) ∧ FlC M1 e) ∧
    (∀ t, isN b n p → l.length < 120 → mng sc H (nmAt b n p) = some t → ∃ M1, f_X6_readFirstWord (k + 3) 14 10 37 M = some (1, M1) ∧ Fr SRt M M1 ∧ (∀ i, dC M1 i = dC M i) ∧ RtS M1 c b n H sc (l ++ [(1, t)]) (pls ++ [tq b n p]) P (te b n p)) ∧
    (¬ isN b n p → 13 ≤ tw b n p ∧ tw b n p ≤ 21 → l.length < 120 → ∃ M1, f_X6_readFirstWord (k + 3) 14 10 37 M = some (1, M1) ∧ Fr SRt M M1 ∧ (∀ i, dC M1 i = dC M i) ∧ RtS M1 c b n H sc (l ++ [(tw b n p - 11, lb0 (tw b n p - 11))]) (pls ++ [tq b n p]) (P ++ WrP (tw b n p - 11)) (te b n p)) := by
  obtain ⟨hW, hX, hT, hH, hR, hPc, hS, hP, ⟨h11, hp⟩, h17, h18⟩ := h
  obtain ⟨M5, a1, a2, a3, a4, a5, a6⟩ := c_advance hW hX (k + 1) hp h11
  have hW5 := a2.Wd hW
  have hn6 := hX.2.1
  have h24 := hS.2.1
  have h6 := hH.2.1
  have hO := fO_14 hW
  have hO5 := fO_14 hW5
  have hK : TkC M5 b n p := ⟨a3, a4, a5, a6⟩
  obtain ⟨t1, t2⟩ := c_atName hW5 (k + 1) hK hp hn6
  have hSA : ∀ a k, SA a k → SRt a k := fun a k q => by unfold SA at q; unfold SRt; omega
  have F5 : Fr SRt M M5 := a2.mono hSA
  obtain ⟨T5, d5⟩ := tab_mv hT a2 (fun a k q => by unfold SA at q; omega)
  have hX5 : TxC M5 b n := hX.fr a2 (by unfold SA; omega) (fun k => by unfold SA; omega) (fun k => by unfold SA; omega)
  have hH5 : HyC M5 10 c H := hH.up a2 (fun a k q => by unfold SA at q; omega) (fun i _ => d5 i) (Nat.le_refl _)
  have hR5 : RowC M5 37 c l ∧ M5.2.2.1 37 3 = 0 := row37_mv hR a2 (fun a k q => by unfold SA at q; omega) (fun i _ => d5 i) (Nat.le_refl _)
  have hPc5 : PcC M5 pls := hPc.1.mv a2 (fun k => by unfold SA; omega)
  have hS5 : ScC M5 sc := hS.mv a2 (by unfold SA; omega) (fun k => by unfold SA; omega)
  have hP5 : PlC M5 P := hP.mv a2 (by unfold SA; omega) (fun k => by unfold SA; omega)
  have f17 : M5.2.2.1 14 17 = 0 := (a2.int (by unfold SA; omega)).trans h17
  have f18 : M5.2.2.1 14 18 = -1 := (a2.int (by unfold SA; omega)).trans h18
  have hle := tq_le b n p hp
  obtain ⟨x1, x2⟩ := x3_is (b := b) hp
  have flt : ∀ x : Nat, Fr SRt M (wI (wI M5 14 17 (nI x)) 14 18 (nI (tq b n p))) ∧ TabC (wI (wI M5 14 17 (nI x)) 14 18 (nI (tq b n p))) c ∧ (∀ i, dC (wI (wI M5 14 17 (nI x)) 14 18 (nI (tq b n p))) i = dC M i) ∧ FlC (wI (wI M5 14 17 (nI x)) 14 18 (nI (tq b n p))) (x, tq b n p) := fun x => ⟨(F5.wI (by unfold SRt; omega) _).wI (by unfold SRt; omega) _, T5, d5, by simp [up2_if], by simp [up2_if]⟩
  obtain ⟨m, hm⟩ : ∃ m, m = k + 2 := ⟨_, rfl⟩
  rw [show k + 1 + 1 = m by omega] at a1 t1 t2
  rw [show k + 3 = m + 1 by omega]
  have Ef : ∀ x : Nat, cal (m + 1) (fun n => f_X6_fail n 14 (nI x) (M5.2.2.1 14 12) M5) = some (0, wI (wI M5 14 17 (nI x)) 14 18 (nI (tq b n p))) := fun x => by
    rw [cal_s, a3]
    exact c_fail hW5 m (nI x) (nI (tq b n p))
  have hOt : fO M5 37 9 := ⟨by rw [hW5.1]; omega, s_37 hW5⟩
  have hNo : M5.2.2.1 37 2 = nI l.length := hR5.1.1
  have r86f : ∀ (x3 x4 x5 : Int32), 120 ≤ l.length → lp (st_X6_readFirstWord (m + 1)) (86, [.ref 14, .ref 37, .int x3, .int x4, .int x5], M5) = some (0, wI (wI M5 14 17 (nI 4)) 14 18 (nI (tq b n p))) := by
    intro x3 x4 x5 h120
    refine (ge_X6_readFirstWord_86 (m + 1) 14 37 x3 x4 x5 M5).trans ?_
    have E : cal (m + 1) (fun n => f_X6_fail n 14 4 (M5.2.2.1 14 12) M5) = some (0, wI (wI M5 14 17 (nI 4)) 14 18 (nI (tq b n p))) := Ef 4
    unfold T_X6_readFirstWord_86
    simp (disch := omega) only [↓reduceIte, ↓gd_pos hOt, ↓gd_pos hO5, hNo, nI_lt0, show (120 : Int32) = nI 120 from rfl, nI_lt_, eq_false (show ¬ l.length < 120 by omega), ↓bnd2_of E, nar_b0, gd_true]
  -- the place is kept, the node added
  have hW6 : l.length < 120 → Wd (wI M5 23 l.length (nI (tq b n p))) := fun _ => hW5.wI _ _ _
  by_cases hN : isN b n p
  · have e1 := t1 hN
    have e2 := c_nameRead hW5 (k + 1) hK hp hn6 hN
    rw [show k + 1 + 1 = m by omega] at e2
    have hnm : nmAt b n p < 2147483648 := (nmc_lt hN.ok).1
    have e3 := c_meaning hW5 hS5 hH5 hnm (k + 1)
    rw [show k + 1 + 1 = m by omega] at e3
    have s0 : f_X6_readFirstWord (m + 1) 14 10 37 M = lp (st_X6_readFirstWord (m + 1)) (62, [.ref 14, .ref 37, .int (cod b n p - 11), .int 1, .int (mgI (mng sc H (nmAt b n p)))], M5) := by
      refine (ge_X6_readFirstWord_0 (m + 1) 14 10 37 M).trans ?_
      have s1 : lp (st_X6_readFirstWord (m + 1)) (44, [.ref 14, .ref 10, .ref 37, .int (cod b n p - 11), .int 1], M5) = lp (st_X6_readFirstWord (m + 1)) (62, [.ref 14, .ref 37, .int (cod b n p - 11), .int 1, .int (mgI (mng sc H (nmAt b n p)))], M5) := by
        refine (ge_X6_readFirstWord_44 (m + 1) 14 10 37 _ 1 M5).trans ?_
        unfold T_X6_readFirstWord_44
        simp (disch := omega) only [↓reduceIte, show ((1 : Int32) = 0) = False from eq_false (by decide), ↓gd_pos hO5, ↓bnd2_of (show cal (m + 1) (fun zz => f_X6_nameRead zz 14 M5) = _ from e2), ↓bnd2_of (show cal (m + 1) (fun zz => f_X6_meaning zz 14 (nI (nmAt b n p)) 10 M5) = _ from e3)]
      rw [← s1]
      unfold T_X6_readFirstWord_0
      simp (disch := omega) only [↓reduceIte, ↓gd_pos hO, ↓gd_pos hO5, ↓bnd2_of (show cal (m + 1) (fun zz => f_X6_advance zz 14 M) = _ from a1), ↓bnd2_of (show cal (m + 1) (fun zz => f_X6_atName zz 14 M5) = _ from e1), show ((1 : Int32) = 0) = False from eq_false (by decide), a5]
    rw [s0]
    cases hmn : mng sc H (nmAt b n p) with
    | none =>
      refine ⟨fun e he => ?_, fun t _ _ q => (by cases q), fun q => (q hN).elim⟩
      have he3 : e = (3, tq b n p) := by
        rcases he with ⟨-, he⟩ | ⟨q, -⟩
        · rw [rdN_n] at he
          cases he
          rfl
        · exact (q hN).elim
      rw [he3]
      refine ⟨_, ?_, flt 3⟩
      refine (ge_X6_readFirstWord_62 (m + 1) 14 37 _ 1 _ M5).trans ?_
      have E : cal (m + 1) (fun n => f_X6_fail n 14 3 (M5.2.2.1 14 12) M5) = some (0, wI (wI M5 14 17 (nI 3)) 14 18 (nI (tq b n p))) := Ef 3
      unfold T_X6_readFirstWord_62
      simp (disch := omega) only [↓reduceIte, show ((1 : Int32) = 0) = False from eq_false (by decide), show (mgI none = (24 : Int32)) = True from eq_true rfl, ↓gd_pos hO5, ↓bnd2_of E, nar_b0, gd_true]
    | some t =>
      obtain ⟨m1, m2⟩ := mgI_ne h24 h6 hmn
      rw [hmn] at m1 m2
      have s62 : lp (st_X6_readFirstWord (m + 1)) (62, [.ref 14, .ref 37, .int (cod b n p - 11), .int 1, .int (mgI (some t))], M5) = lp (st_X6_readFirstWord (m + 1)) (86, [.ref 14, .ref 37, .int (cod b n p - 11), .int 1, .int (nv t)], M5) := by
        rw [← m2]
        refine (ge_X6_readFirstWord_62 (m + 1) 14 37 _ 1 _ M5).trans ?_
        unfold T_X6_readFirstWord_62
        simp (disch := omega) only [↓reduceIte, show ((1 : Int32) = 0) = False from eq_false (by decide), eq_false m1]
      rw [s62]
      refine ⟨fun e he => ?_, fun t' _ h120 q => ?_, fun q => (q hN).elim⟩
      · have he4 : e = (4, tq b n p) ∧ 120 ≤ l.length := by
          rcases he with ⟨-, he⟩ | ⟨q, -⟩
          · rw [rdN_s] at he
            split at he
            · cases he
              exact ⟨rfl, by assumption⟩
            · cases he
          · exact (q hN).elim
        rw [he4.1]
        exact ⟨_, r86f _ _ _ he4.2, flt 4⟩
      · cases q
        have F6 : Fr SRt M (wI M5 23 l.length (nI (tq b n p))) := F5.wI (by unfold SRt; omega) _
        have F56 : Fr (fun a k => a = 23) M5 (wI M5 23 l.length (nI (tq b n p))) := Fr.refl.wI (S := fun a k => a = 23) rfl _
        have hR6 := row37_mv hR5 F56 (fun a k q => by omega) (fun i _ => rfl) (Nat.le_refl c)
        have hag : agC (wI M5 23 l.length (nI (tq b n p))) c (1, t) (nv t) := ⟨fun _ => rfl, fun q => by unfold tf at q; omega, fun q => (q rfl).elim⟩
        obtain ⟨M7, e7, F7, G7⟩ := c_add (hW6 h120) (tr := 37) (by unfold TOb; omega) (Or.inl ⟨hR6.2, hR6.1⟩) m (o := 1) (lb := t) (by omega) (by omega) hag
        have e7' : f_X9_add m 37 1 (nv t) (wI M5 23 l.length (nI (tq b n p))) = some ((), M7) := e7
        have hW7 := F7.Wd (hW6 h120)
        have hG7 : M7.2.2.1 37 3 = 0 ∧ RowC M7 37 c (l ++ [(1, t)]) := by
          rcases G7 with q | ⟨-, -, q⟩
          · exact q
          · simp at q; omega
        have hA : fA M5 23 1 (nI l.length) := fA_R hW5 (by omega) (s_23 hW5) h120 (by omega)
        have hOt6 : fO (wI M5 23 l.length (nI (tq b n p))) 37 9 := hOt
        have F67 : Fr (fun a k => a = 23 ∨ SO 37 a k) M5 M7 := (F56.mono (fun a k q => Or.inl q)).trans (F7.mono (fun a k q => Or.inr q))
        have hS67 : ∀ a k, (a = 23 ∨ SO 37 a k) → a = 23 ∨ (37 ≤ a ∧ a ≤ 39) := fun a k q => by unfold SO at q; omega
        obtain ⟨T7, d7⟩ := tab_mv T5 F67 (fun a k q => by have := hS67 _ _ q; omega)
        refine ⟨M7, ?_, F6.trans (F7.mono (fun a k q => by unfold SRt; exact Or.inr (Or.inr (Or.inr q)))), fun i => (d7 i).trans (d5 i), hW7, hX5.fr F67 (fun q => by have := hS67 _ _ q; omega) (fun k q => by have := hS67 _ _ q; omega) (fun k q => by have := hS67 _ _ q; omega), T7, hH5.up F67 (fun a k q => by have := hS67 _ _ q; omega) (fun i _ => d7 i) (Nat.le_refl _), ⟨hG7.2, hG7.1⟩, ⟨fun i x q => ?_, ?_⟩, hS5.mv F67 (fun q => by have := hS67 _ _ q; omega) (fun k q => by have := hS67 _ _ q; omega), hP5.mv F67 (fun q => by have := hS67 _ _ q; omega) (fun k q => by have := hS67 _ _ q; omega), ⟨?_, hle.2.2.2⟩, ?_, ?_⟩
        · refine (ge_X6_readFirstWord_86 (m + 1) 14 37 _ 1 _ M5).trans ?_
          have s136 : lp (st_X6_readFirstWord (m + 1)) (136, [.ref 14, .int (cod b n p - 11), .int 1, .int (nv t), .int 1, .ref 37], wI M5 23 l.length (nI (tq b n p))) = some (1, M7) := by
            refine (ge_X6_readFirstWord_136 (m + 1) 14 _ 1 _ 1 37 _).trans ?_
            unfold T_X6_readFirstWord_136
            simp (disch := omega) only [↓reduceIte, ↓gd_pos hOt6, ↓bnd2_of (show cal (m + 1) (fun zz => f_X9_add zz 37 1 (nv t) (wI M5 23 l.length (nI (tq b n p)))) = _ from e7'), show ((1 : Int32) = 0) = False from eq_false (by decide)]
          unfold T_X6_readFirstWord_86
          have hA' : fA M5 23 1 (M5.2.2.1 37 2) := by rw [hNo]; exact hA
          simp (disch := omega) only [↓reduceIte, ↓gd_pos hOt, ↓gd_pos hO5, ↓gd_pos hA', hNo, nI_lt0, show (120 : Int32) = nI 120 from rfl, nI_lt_, eq_true h120, ↓bnd_of (r_14_9 hW5), show ((1 : Int32) = 0) = False from eq_false (by decide), nI_z, a3, s136]
        · rw [F7.int (by unfold SO; omega)]
          rcases get_app q with ⟨g1, g2⟩ | ⟨g1, g2⟩
          · have ne : i ≠ l.length := by have := hPc.2; omega
            simp [up2_if, ne, hPc5 i x g2]
          · have : i = l.length := by have := hPc.2; omega
            subst this g2
            simp [up2_if]
        · simp [hPc.2]
        · have hnx : nxt b n p = te b n p := by
            unfold nxt
            have := hN.1
            rw [if_neg (by omega), if_neg (by omega)]
          rw [F67.int (fun q => by have := hS67 _ _ q; omega), a4, hnx]
        · rw [F67.int (fun q => by have := hS67 _ _ q; omega), f17]
        · rw [F67.int (fun q => by have := hS67 _ _ q; omega), f18]
  · have e1 := t2 hN
    by_cases hw : 13 ≤ tw b n p ∧ tw b n p ≤ 21
    · have hx3 := x1 hw
      obtain ⟨o, ho⟩ : ∃ o, o = tw b n p - 11 := ⟨_, rfl⟩
      rw [← ho] at hx3 ⊢
      have ho2 : 2 ≤ o ∧ o ≤ 10 := by omega
      have s0 : f_X6_readFirstWord (m + 1) 14 10 37 M = lp (st_X6_readFirstWord (m + 1)) (86, [.ref 14, .ref 37, .int (nI o), .int 0, .int 0], M5) := by
        refine (ge_X6_readFirstWord_0 (m + 1) 14 10 37 M).trans ?_
        have s62 : lp (st_X6_readFirstWord (m + 1)) (62, [.ref 14, .ref 37, .int (nI o), .int 0, .int 0], M5) = lp (st_X6_readFirstWord (m + 1)) (86, [.ref 14, .ref 37, .int (nI o), .int 0, .int 0], M5) := by
          refine (ge_X6_readFirstWord_62 (m + 1) 14 37 _ 0 _ M5).trans ?_
          unfold T_X6_readFirstWord_62
          simp only [↓reduceIte]
        have s44 : lp (st_X6_readFirstWord (m + 1)) (44, [.ref 14, .ref 10, .ref 37, .int (nI o), .int 0], M5) = lp (st_X6_readFirstWord (m + 1)) (62, [.ref 14, .ref 37, .int (nI o), .int 0, .int 0], M5) := by
          refine (ge_X6_readFirstWord_44 (m + 1) 14 10 37 _ 0 M5).trans ?_
          unfold T_X6_readFirstWord_44
          simp only [↓reduceIte]
        rw [← s62, ← s44]
        unfold T_X6_readFirstWord_0
        simp (disch := omega) only [↓reduceIte, ↓gd_pos hO, ↓gd_pos hO5, ↓bnd2_of (show cal (m + 1) (fun zz => f_X6_advance zz 14 M) = _ from a1), ↓bnd2_of (show cal (m + 1) (fun zz => f_X6_atName zz 14 M5) = _ from e1), a5, hx3, show (2 : Int32) = nI 2 from rfl, show (10 : Int32) = nI 10 from rfl, nI_lt_, nI_le_, eq_false (show ¬ o < 2 by omega), eq_true (show o ≤ 10 by omega)]
      rw [s0]
      refine ⟨fun e he => ?_, fun t q => (hN q).elim, fun _ _ h120 => ?_⟩
      · have he4 : e = (4, tq b n p) ∧ 120 ≤ l.length := by
          rcases he with ⟨q, -⟩ | ⟨-, ⟨q, -⟩ | ⟨-, q1, q2⟩⟩
          · exact (hN q).elim
          · exact (q hw).elim
          · exact ⟨q2, q1⟩
        rw [he4.1]
        exact ⟨_, r86f _ _ _ he4.2, flt 4⟩
      · have F6 : Fr SRt M (wI M5 23 l.length (nI (tq b n p))) := F5.wI (by unfold SRt; omega) _
        have F56 : Fr (fun a k => a = 23) M5 (wI M5 23 l.length (nI (tq b n p))) := Fr.refl.wI (S := fun a k => a = 23) rfl _
        have hR6 := row37_mv hR5 F56 (fun a k q => by omega) (fun i _ => rfl) (Nat.le_refl c)
        have hP6 : PlC (wI M5 23 l.length (nI (tq b n p))) P := hP5.mv F56 (by omega) (by omega)
        have hag : agC (wI M5 23 l.length (nI (tq b n p))) c (o, lb0 o) 0 := ⟨fun q => absurd q (by show ¬ o = 1; omega), fun q => ⟨0, by have := T5.2.1; omega, rfl, by
          have : lb0 o = .arg 0 := if_pos q
          show dC M5 0 = lb0 o
          rw [this]
          exact T5.leaf (by omega)⟩, fun _ _ => rfl⟩
        obtain ⟨M7, e7, F7, G7⟩ := c_add (hW6 h120) (tr := 37) (by unfold TOb; omega) (Or.inl ⟨hR6.2, hR6.1⟩) m (o := o) (lb := lb0 o) (by omega) (by omega) hag
        have hW7 := F7.Wd (hW6 h120)
        have hG7 : M7.2.2.1 37 3 = 0 ∧ RowC M7 37 c (l ++ [(o, lb0 o)]) := by
          rcases G7 with q | ⟨-, -, q⟩
          · exact q
          · simp at q; omega
        have hP7 : PlC M7 P := hP6.mv F7 (by unfold SO; omega) (fun k => by unfold SO; omega)
        obtain ⟨M8, e8, F8, P8⟩ := c_wantRest hW7 hP7 hPl k ho2.1 ho2.2
        rw [show k + 2 = m by omega] at e8
        have hW8 := F8.Wd hW7
        have hA : fA M5 23 1 (nI l.length) := fA_R hW5 (by omega) (s_23 hW5) h120 (by omega)
        have hOt6 : fO (wI M5 23 l.length (nI (tq b n p))) 37 9 := hOt
        have F68 : Fr (fun a k => a = 23 ∨ SO 37 a k ∨ SPl a k) M5 M8 := ((F56.mono (fun a k q => Or.inl q)).trans (F7.mono (fun a k q => Or.inr (Or.inl q)))).trans (F8.mono (fun a k q => Or.inr (Or.inr q)))
        have hS68 : ∀ a k, (a = 23 ∨ SO 37 a k ∨ SPl a k) → a = 23 ∨ (37 ≤ a ∧ a ≤ 39) ∨ a = 21 ∨ (a = 14 ∧ k = 6) := fun a k q => by unfold SO SPl at q; omega
        obtain ⟨T8, d8⟩ := tab_mv T5 F68 (fun a k q => by have := hS68 _ _ q; omega)
        obtain ⟨-, d78⟩ := tab_mv (M := M7) (M1 := M8) (c := c) ((tab_mv (M := M5) (M1 := M7) T5 ((F56.mono (T := fun a k => a = 23 ∨ SO 37 a k) (fun a k q => Or.inl q)).trans (F7.mono (fun a k q => Or.inr q))) (fun a k q => by unfold SO at q; omega)).1) F8 (fun a k q => by unfold SPl at q; omega)
        have hR8 := row37_mv (c1 := c) ⟨hG7.2, hG7.1⟩ F8 (fun a k q => by unfold SPl at q; omega) (fun i _ => d78 i) (Nat.le_refl _)
        refine ⟨M8, ?_, (F6.trans (F7.mono (fun a k q => by unfold SRt; exact Or.inr (Or.inr (Or.inr q))))).trans (F8.mono (fun a k q => by unfold SPl at q; unfold SRt; omega)), fun i => (d8 i).trans (d5 i), hW8, hX5.fr F68 (fun q => by have := hS68 _ _ q; omega) (fun k q => by have := hS68 _ _ q; omega) (fun k q => by have := hS68 _ _ q; omega), T8, hH5.up F68 (fun a k q => by have := hS68 _ _ q; omega) (fun i _ => d8 i) (Nat.le_refl _), hR8, ⟨fun i x q => ?_, ?_⟩, hS5.mv F68 (fun q => by have := hS68 _ _ q; omega) (fun k q => by have := hS68 _ _ q; omega), P8, ⟨?_, hle.2.2.2⟩, ?_, ?_⟩
        · refine (ge_X6_readFirstWord_86 (m + 1) 14 37 _ 0 _ M5).trans ?_
          have e7' : f_X9_add m 37 (nI o) 0 (wI M5 23 l.length (nI (tq b n p))) = some ((), M7) := e7
          have s136 : lp (st_X6_readFirstWord (m + 1)) (136, [.ref 14, .int (nI o), .int 0, .int 0, .int (nI o), .ref 37], wI M5 23 l.length (nI (tq b n p))) = some (1, M8) := by
            refine (ge_X6_readFirstWord_136 (m + 1) 14 _ 0 _ _ 37 _).trans ?_
            unfold T_X6_readFirstWord_136
            simp (disch := omega) only [↓reduceIte, ↓gd_pos hOt6, ↓bnd2_of (show cal (m + 1) (fun zz => f_X9_add zz 37 (nI o) 0 (wI M5 23 l.length (nI (tq b n p)))) = _ from e7'), ↓gd_pos (fO_14 hW7), ↓bnd2_of (show cal (m + 1) (fun zz => f_X6_wantRest zz 14 (nI o) M7) = _ from e8)]
          unfold T_X6_readFirstWord_86
          have hA' : fA M5 23 1 (M5.2.2.1 37 2) := by rw [hNo]; exact hA
          simp (disch := omega) only [↓reduceIte, ↓gd_pos hOt, ↓gd_pos hO5, ↓gd_pos hA', hNo, nI_lt0, show (120 : Int32) = nI 120 from rfl, nI_lt_, eq_true h120, ↓bnd_of (r_14_9 hW5), nI_z, a3, s136]
        · rw [F8.int (by unfold SPl; omega), F7.int (by unfold SO; omega)]
          rcases get_app q with ⟨g1, g2⟩ | ⟨g1, g2⟩
          · have ne : i ≠ l.length := by have := hPc.2; omega
            simp [up2_if, ne, hPc5 i x g2]
          · have : i = l.length := by have := hPc.2; omega
            subst this g2
            simp [up2_if]
        · simp [hPc.2]
        · rcases tw_is b n p hp with ⟨-, -, -, hnx, -, -⟩ | ⟨q, -⟩
          · rw [F68.int (fun q => by have := hS68 _ _ q; omega), a4, hnx]
          · omega
        · rw [F68.int (fun q => by have := hS68 _ _ q; omega), f17]
        · rw [F68.int (fun q => by have := hS68 _ _ q; omega), f18]
    · have hx3 := x2 hw
      refine ⟨fun e he => ?_, fun t q => (hN q).elim, fun _ q => (hw q).elim⟩
      have he1 : e = (1, tq b n p) := by
        rcases he with ⟨q, -⟩ | ⟨-, ⟨-, q⟩ | ⟨q, -⟩⟩
        · exact (hN q).elim
        · exact q
        · exact (hw q).elim
      rw [he1]
      refine ⟨_, ?_, flt 1⟩
      have E : cal (m + 1) (fun n => f_X6_fail n 14 1 (M5.2.2.1 14 12) M5) = some (0, wI (wI M5 14 17 (nI 1)) 14 18 (nI (tq b n p))) := Ef 1
      refine (ge_X6_readFirstWord_0 (m + 1) 14 10 37 M).trans ?_
      unfold T_X6_readFirstWord_0
      simp (disch := omega) only [↓reduceIte, ↓gd_pos hO, ↓gd_pos hO5, ↓bnd2_of (show cal (m + 1) (fun zz => f_X6_advance zz 14 M) = _ from a1), ↓bnd2_of (show cal (m + 1) (fun zz => f_X6_atName zz 14 M5) = _ from e1), a5, eq_true hx3, ↓bnd2_of E, nar_b0, gd_true]
end RTG
