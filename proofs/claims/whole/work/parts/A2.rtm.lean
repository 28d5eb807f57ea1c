/-! READING A TERM in the class: all of it -/
section RTM
variable {b : Nat → Nat} {n : Nat} {H : List (Nat × Fm)}
/-- words and bytes: a word behind the place p, and a blank ahead of it -/
def RtJ (b : Nat → Nat) (n p c c1 j q : Nat) : Prop := 2 * c1 + 2 * j + (n - q) ≤ 2 * c + (n - p) + (1 - p) ∧ 0 < q ∧ (q < n → ¬ isLt (b q))
theorem wd_two {p : Nat} (hp : p ≤ n) (h : tq b n p < te b n p) (h0 : 0 < p → p < n → ¬ isLt (b p)) : 2 + (n - te b n p) ≤ (n - p) + (1 - p) := by
  have hle := tq_le b n p hp
  have ls := lts_is b (n - tq b n p) (tq b n p)
  by_cases hz : p = 0
  · omega
  · have : tq b n p ≠ p := fun q => h0 (by omega) (by omega) (by
      have := ls.2.2.2 (tq b n p) (Nat.le_refl _) h
      rwa [q] at this)
    omega
theorem scan_end : ∀ {z p o : Nat} {l : List Nat} {q : Nat}, p ≤ n → (p < n → ¬ isLt (b p)) → scan b n z p o = .inr (l, q) → (q < n → ¬ isLt (b q)) ∧ p ≤ q := by
  intro z
  induction z with
  | zero =>
    intro p o l q hp he h
    cases o with
    | zero => rw [scan_z] at h; cases h; exact ⟨he, Nat.le_refl _⟩
    | succ o => cases h
  | succ z ih =>
    intro p o l q hp he h
    cases o with
    | zero => rw [scan_z] at h; cases h; exact ⟨he, Nat.le_refl _⟩
    | succ o =>
      rw [scan_s] at h
      split at h
      · split at h
        · cases h
        · rename_i r e
          cases h
          have hle := tq_le b n p hp
          have := ih (l := r.1) (q := r.2) hle.2.2.2 (fun q => (lts_is b (n - tq b n p) (tq b n p)).2.2.1 (by show te b n p < _; omega)) e
          exact ⟨this.1, by have := this.2; show p ≤ r.2; omega⟩
      · cases h
theorem jz {q : Nat} (h : 0 < q) : 1 - q = 0 := Nat.sub_eq_zero_of_le h
theorem jN {A B Q c s : Nat} (h : 2 + Q ≤ A + B) (hs : s = 1) : 2 * c + 2 * s + Q ≤ 2 * c + A + B := by subst hs; omega
theorem jF {A B Q U W z R c c3 c4 s : Nat} (h : 2 + Q ≤ A + B) (g2 : 2 * c + U ≤ 2 * c + Q) (g3 : 2 * c3 + W ≤ 2 * c + U) (hz : z = 0) (j : 2 * c4 + 2 * s + R ≤ 2 * c3 + W + z) : 2 * c4 + 2 * (s + 1) + R ≤ 2 * c + A + B := by omega
theorem jC {A B Q U V z1 z2 z3 R1 R2 R3 c c2 c4 c7 s1 s2 s3 : Nat} (h : 2 + Q ≤ A + B) (e1 : z1 = 0) (j1 : 2 * c2 + 2 * s1 + R1 ≤ 2 * c + Q + z1) (g1 : 2 * c2 + U ≤ 2 * c2 + R1) (e2 : z2 = 0) (j2 : 2 * c4 + 2 * s2 + R2 ≤ 2 * c2 + U + z2) (g2 : 2 * c4 + V ≤ 2 * c4 + R2) (e3 : z3 = 0) (j3 : 2 * c7 + 2 * s3 + R3 ≤ 2 * c4 + V + z3) : 2 * c7 + 2 * (s1 + s2 + s3 + 1) + R3 ≤ 2 * c + A + B := by omega
theorem jB {A B Q z1 z2 R1 R2 c c2 c4 s1 s2 : Nat} (h : 2 + Q ≤ A + B) (e1 : z1 = 0) (j1 : 2 * c2 + 2 * s1 + R1 ≤ 2 * c + Q + z1) (e2 : z2 = 0) (j2 : 2 * c4 + 2 * s2 + R2 ≤ 2 * c2 + R1 + z2) : 2 * c4 + 2 * (s1 + s2 + 1) + R2 ≤ 2 * c + A + B := by omega
theorem jU {A B Q z1 R1 c c2 s1 : Nat} (h : 2 + Q ≤ A + B) (e1 : z1 = 0) (j1 : 2 * c2 + 2 * s1 + R1 ≤ 2 * c + Q + z1) : 2 * c2 + 2 * (s1 + 1) + R1 ≤ 2 * c + A + B := by omega
theorem jG {A B Q W z R c c3 c4 s : Nat} (h : 2 + Q ≤ A + B) (g3 : 2 * c3 + W ≤ 2 * c + Q) (hz : z = 0) (j : 2 * c4 + 2 * s + R ≤ 2 * c3 + W + z) : 2 * c4 + 2 * (s + 1) + R ≤ 2 * c + A + B := by omega
/-- how reading a term ends -/
def RtO (k : Nat) (M : Mem) (c : Nat) (b : Nat → Nat) (n : Nat) (H : List (Nat × Fm)) (sc : List Nat) (l : List (Nat × Tm)) (pls P : List Nat) (p i : Nat) (r : RdR) : Prop := match r with
  | .inl e => ∃ M1, lpT k i M = some (0, M1) ∧ RtF M c n p M1 e
  | .inr r => ∃ c1 M1 i1, lpT k i M = lpT k i1 M1 ∧ RtG M c n p M1 c1 r.2.2 ∧ RtS M1 c1 b n H sc (l ++ rws r.1) (pls ++ r.2.1) P r.2.2 ∧ i1 + P.length ≤ 1 + 7 * (l ++ rws r.1).length ∧ RtJ b n p c c1 (sz r.1) r.2.2
theorem RtG.refl {M : Mem} {c n p : Nat} : RtG M c n p M c p := ⟨Fr.refl, Nat.le_refl _, Nat.le_refl _, fun _ _ => rfl⟩
/-- what is read on from a later place -/
theorem RtO.go {k : Nat} {M M1 : Mem} {c c1 : Nat} {sc : List Nat} {l : List (Nat × Tm)} {pls P : List Nat} {p q i i1 : Nat} {e : Nat × Nat} (h : lpT k i M = lpT k i1 M1) (g : RtG M c n p M1 c1 q) (o : ∃ M2, lpT k i1 M1 = some (0, M2) ∧ RtF M1 c1 n q M2 e) : RtO k M c b n H sc l pls P p i (.inl e) := by
  obtain ⟨M2, e2, f2⟩ := o
  exact ⟨M2, h.trans e2, g.flt f2⟩
theorem te_lt (p : Nat) (hp : p ≤ n) : te b n p < n → ¬ isLt (b (te b n p)) := fun q => by
  have hle := tq_le b n p hp
  exact (lts_is b (n - tq b n p) (tq b n p)).2.2.1 (by show te b n p < _; omega)
theorem rws_len (t : Tm) : (rws t).length = sz t := rfl
set_option maxHeartbeats 4000000 in
theorem rt_main (hH6 : H.length ≤ 6) (k : Nat) : ∀ z {sc : List Nat} {l : List (Nat × Tm)} {pls P : List Nat} {p i c : Nat} {M : Mem}, RtS M c b n H sc l pls (P ++ [1]) p → (0 < p → p < n → ¬ isLt (b p)) → l.length ≤ 120 → 121 ≤ l.length + z → 2 * c + (n - p) ≤ 10300 → i + (P.length + 1) ≤ 1 + 7 * l.length → RtO k M c b n H sc l pls P p i (rdT b n H z p sc l.length) := by
  intro z
  induction z with
  | zero =>
    intro sc l pls P p i c M h hp0 hl hz
    omega
  | succ z ih =>
    intro sc l pls P p i c M h hp0 hl hz hc hi
    have hS0 := h.pop
    have hp := hS0.2.2.2.2.2.2.2.2.1.2
    have hle := tq_le b n p hp
    have hi8 : i < 854 := by omega
    obtain ⟨w1, w2, w3⟩ := c_first hS0 hl (by omega) k
    obtain ⟨m, hm⟩ : ∃ m, m = k + 3 := ⟨_, rfl⟩
    rw [← hm] at w1 w2 w3
    have F0 : Fr SRt M (wI M 14 6 (nI P.length)) := Fr.refl.wI (by unfold SRt; omega) _
    have hO := fO_14 hS0.1
    have wan : ∀ {x : Int32} {M1 : Mem}, (x = 0 ∨ x = 1) → f_X6_readFirstWord m 14 10 37 (wI M 14 6 (nI P.length)) = some (x, M1) → f_X6_readWanted (k + 4) 14 (nI 1) 10 37 (wI M 14 6 (nI P.length)) = some (x, M1) := by
      intro x M1 hx e
      rw [show k + 4 = m + 1 by omega, rw_eq]
      unfold T_X6_readWanted_0
      rcases hx with rfl | rfl
      · simp (disch := omega) only [↓reduceIte, show (nI 1 = (2 : Int32)) = False from eq_false (by decide), show (nI 1 = (3 : Int32)) = False from eq_false (by decide), show (nI 1 = (4 : Int32)) = False from eq_false (by decide), ↓gd_pos hO, ↓bnd2_of (show cal (m + 1) (fun zz => f_X6_readFirstWord zz 14 10 37 (wI M 14 6 (nI P.length))) = _ from e), nar_b0, gd_true]
      · simp (disch := omega) only [↓reduceIte, show (nI 1 = (2 : Int32)) = False from eq_false (by decide), show (nI 1 = (3 : Int32)) = False from eq_false (by decide), show (nI 1 = (4 : Int32)) = False from eq_false (by decide), ↓gd_pos hO, ↓bnd2_of (show cal (m + 1) (fun zz => f_X6_readFirstWord zz 14 10 37 (wI M 14 6 (nI P.length))) = _ from e), nar_b1, gd_true]
    have flt : ∀ e, ((isN b n p ∧ rdN (mng sc H (nmAt b n p)) l.length (tq b n p) (te b n p) = .inl e) ∨ (¬ isN b n p ∧ ((¬ (13 ≤ tw b n p ∧ tw b n p ≤ 21) ∧ e = (1, tq b n p)) ∨ ((13 ≤ tw b n p ∧ tw b n p ≤ 21) ∧ 120 ≤ l.length ∧ e = (4, tq b n p))))) → RtO k M c b n H sc l pls P p i (.inl e) := by
      intro e he
      obtain ⟨M1, e1, F1, T1, d1, f1⟩ := w1 e he
      exact ⟨M1, (rt_item h hi8 k).2 (wan (Or.inl rfl) e1), F0.trans F1, f1, c, T1, Nat.le_refl _, by omega, fun i _ => d1 i⟩
    by_cases hN : isN b n p
    · rw [rdT_N hN]
      cases hmn : mng sc H (nmAt b n p) with
      | none => exact flt _ (Or.inl ⟨hN, by rw [hmn]; rfl⟩)
      | some t =>
        rw [rdN_s]
        by_cases h120 : 120 ≤ l.length
        · rw [if_pos h120]
          exact flt _ (Or.inl ⟨hN, by rw [hmn, rdN_s, if_pos h120]⟩)
        · rw [if_neg h120]
          obtain ⟨M1, e1, F1, d1, S1⟩ := w2 t hN (by omega) hmn
          have hrw : rws t = [(1, t)] := by
            unfold mng at hmn
            cases hq : lstI sc (nmAt b n p) sc.length with
            | some j => rw [hq] at hmn; cases hmn; rfl
            | none =>
              rw [hq] at hmn
              cases hq2 : fstI H (nmAt b n p) H.length 0 with
              | some j => rw [hq2] at hmn; cases hmn; rfl
              | none => rw [hq2] at hmn; cases hmn
          refine ⟨c, M1, i + 1, (rt_item h hi8 k).1 (wan (Or.inr rfl) e1), ⟨F0.trans F1, Nat.le_refl _, ?_, fun i _ => d1 i⟩, ?_, ?_, ?_⟩
          · show 2 * c + (n - te b n p) ≤ _
            omega
          · show RtS M1 c b n H sc (l ++ rws t) (pls ++ [tq b n p]) P (te b n p)
            rw [hrw]
            exact S1
          · show i + 1 + P.length ≤ 1 + 7 * (l ++ rws t).length
            rw [hrw]
            simp only [List.length_append, List.length_cons, List.length_nil]
            omega
          · have h2 := wd_two hp hN.1 hp0
            have hs1 : sz t = 1 := by rw [← rws_len, hrw]; rfl
            refine ⟨?_, ?_, te_lt p hp⟩
            · exact jN h2 hs1
            · exact Nat.lt_of_le_of_lt (Nat.zero_le _) hN.1
    · rw [rdT_O hN]
      by_cases hw : 13 ≤ tw b n p ∧ tw b n p ≤ 21
      · rw [if_pos hw]
        by_cases h120 : 120 ≤ l.length
        · rw [if_pos h120]
          exact flt _ (Or.inr ⟨hN, Or.inr ⟨hw, h120, rfl⟩⟩)
        · rw [if_neg h120]
          obtain ⟨M1, e1, F1, d1, S1⟩ := w3 hN hw (by omega)
          have st1 := (rt_item h hi8 k).1 (wan (Or.inr rfl) e1)
          have G1 : RtG M c n p M1 c (te b n p) := ⟨F0.trans F1, Nat.le_refl _, by omega, fun i _ => d1 i⟩
          have hlt := te_lt (b := b) p hp
          have htt : tq b n p < te b n p := by
            rcases tw_is b n p hp with ⟨t1, t2, t3, t4, t5, t6⟩ | ⟨t1, -⟩
            · exact t5
            · omega
          have J1 := wd_two hp htt hp0
          have hq1 : 0 < te b n p := Nat.lt_of_le_of_lt (Nat.zero_le _) htt
          have hqn : te b n p ≤ n := hle.2.2.2
          obtain ⟨o, ho⟩ : ∃ o, o = tw b n p - 11 := ⟨_, rfl⟩
          rw [← ho] at S1 ⊢
          obtain ⟨pl, hpl⟩ : ∃ pl, pl = tq b n p := ⟨_, rfl⟩
          rw [← hpl] at S1 ⊢
          obtain ⟨q0, hq0⟩ : ∃ q0, q0 = te b n p := ⟨_, rfl⟩
          rw [← hq0] at S1 G1 hlt J1 hq1 hqn ⊢
          have hc1 : 2 * c + (n - q0) ≤ 10300 := by have := G1.2.2.1; omega
          clear w1 w2 w3 wan flt e1 F1 d1 hS0 hO F0
          have bnd0 : ∀ {q : Nat} {u : Nat × Nat}, q ≤ n → rdB b n q sc = .inr u → q ≤ u.2 ∧ (u.2 < n → ¬ isLt (b u.2)) := by
            intro q u hq hb
            rw [(rdB_in hb).2.2]
            have := tq_le b n q hq
            exact ⟨by show q ≤ te b n q; omega, te_lt q hq⟩
          unfold rdK
          by_cases h2 : o = 2
          · rw [if_pos h2]
            have hW2 : WrP o = [4, 1, 2, 3] := by rw [h2]; rfl
            have hlb : lb0 o = .arg 0 := by rw [h2]; rfl
            rw [hW2, hlb, h2] at S1
            have S1' : RtS M1 c b n H sc (l ++ [(2, .arg 0)]) (pls ++ [pl]) ((P ++ [4, 1, 2]) ++ [3]) q0 := by simpa using S1
            obtain ⟨x1, x2⟩ := rt_bind S1' (i := i + 1) (by omega) k
            cases hb : rdB b n q0 sc with
            | inl e => rw [sbg_l]; exact RtO.go st1 G1 (x1 e hb)
            | inr u =>
              rw [sbg_r]
              obtain ⟨M2, st2, G2, S2⟩ := x2 u hb
              have hu2 : u.2 < n → ¬ isLt (b u.2) := by
                rw [(rdB_in hb).2.2]
                exact te_lt q0 S1'.2.2.2.2.2.2.2.2.1.2
              have S2' : RtS M2 c b n H (sc ++ [u.1]) (l ++ [(2, .arg 0)]) (pls ++ [pl]) ((P ++ [4, 1]) ++ [2]) u.2 := by simpa using S2
              have hc2 : 2 * c + (n - u.2) ≤ 10300 := by have := G2.2.2.1; omega
              obtain ⟨y1, y2⟩ := rt_form S2' (Or.inl rfl) (i := i + 2) (by omega) hc2 hu2 k
              have st12 := st1.trans st2
              have G12 := G1.trans G2
              cases hs : scan b n 30 u.2 1 with
              | inl e => rw [sbg_l]; exact RtO.go st12 G12 (y1 e hs)
              | inr w =>
                rw [sbg_r]
                obtain ⟨c3, M3, st3, G3, S3⟩ := y2 w hs
                have S3' : RtS M3 c3 b n H (sc ++ [u.1]) (l ++ [(2, hdF w.1)]) (pls ++ [pl]) ((P ++ [4]) ++ [1]) w.2 := by simpa using S3
                have st13 := st12.trans st3
                have G13 := G12.trans G3
                have hc3 : 2 * c3 + (n - w.2) ≤ 10300 := by have := G13.2.2.1; omega
                have hse := scan_end (l := w.1) (q := w.2) S2'.2.2.2.2.2.2.2.2.1.2 hu2 hs
                have hu0 := (bnd0 hqn hb).1
                have o4 := ih S3' (i := i + 3) (fun _ => hse.1) (by simp; omega) (by simp; omega) hc3 (by simp; omega)
                rw [show (l ++ [((2 : Nat), hdF w.1)]).length = l.length + 1 by simp] at o4
                cases hr : rdT b n H z w.2 (sc ++ [u.1]) (l.length + 1) with
                | inl e => rw [hr] at o4; rw [sbg_l]; exact RtO.go st13 G13 o4
                | inr r =>
                  rw [hr] at o4
                  rw [sbg_r]
                  obtain ⟨c4, M4, i4, st4, G4, S4, hi4, J4, J5, J6⟩ := o4
                  have hk := rdT_ok hH6 z S3'.2.2.2.2.2.2.2.2.1.2 hr
                  simp only [List.length_append, List.length_cons, List.length_nil, rws_len] at hi4
                  have h54 := hk.2.2.2.2.1
                  have hsz := hk.2.1
                  obtain ⟨M5, st5, G5, S5⟩ := rt_forget S4 (i := i4) (by omega) k
                  refine ⟨c4, M5, i4 + 1, st13.trans (st4.trans st5), (G13.trans G4).trans G5, ?_, ?_, ?_, J5, J6⟩
                  · have e : l ++ rws (tU 2 (hdF w.1) r.1) = l ++ [(2, hdF w.1)] ++ rws r.1 := by rw [rws_U]; simp
                    have e2 : pls ++ (pl :: r.2.1) = pls ++ [pl] ++ r.2.1 := by simp
                    show RtS M5 c4 b n H sc (l ++ rws (tU 2 (hdF w.1) r.1)) (pls ++ (pl :: r.2.1)) P r.2.2
                    rw [e, e2]
                    exact S5
                  · show i4 + 1 + P.length ≤ 1 + 7 * (l ++ rws (tU 2 (hdF w.1) r.1)).length
                    rw [List.length_append, rws_len, sz_U]
                    omega
                  · show 2 * c4 + 2 * sz (tU 2 (hdF w.1) r.1) + (n - r.2.2) ≤ _
                    rw [sz_U]
                    exact jF J1 G2.2.2.1 G3.2.2.1 (jz (Nat.lt_of_lt_of_le hq1 (Nat.le_trans hu0 hse.2))) J4
          · rw [if_neg h2]
            by_cases h9 : o = 9
            · rw [if_pos h9]
              have hW9 : WrP o = [4, 1, 3, 4, 1, 3, 1] := by rw [h9]; rfl
              have hlb : lb0 o = .null := by rw [h9]; rfl
              rw [hW9, hlb, h9] at S1
              have S1' : RtS M1 c b n H sc (l ++ [(9, .null)]) (pls ++ [pl]) ((P ++ [4, 1, 3, 4, 1, 3]) ++ [1]) q0 := by simpa using S1
              have o1 := ih S1' (i := i + 1) (fun _ => hlt) (by simp; omega) (by simp; omega) hc1 (by simp; omega)
              rw [show (l ++ [((9 : Nat), (Jvm.Term.null : Tm))]).length = l.length + 1 by simp] at o1
              cases hr1 : rdT b n H z q0 sc (l.length + 1) with
              | inl e => rw [hr1] at o1; rw [sbg_l]; exact RtO.go st1 G1 o1
              | inr r1 =>
                rw [hr1] at o1
                rw [sbg_r]
                obtain ⟨c2, M2, i2, st2, G2, S2, hi2, J2, J3, J7⟩ := o1
                have hk1 := rdT_ok hH6 z S1'.2.2.2.2.2.2.2.2.1.2 hr1
                have hs1 := hk1.2.1
                have hm1 := hk1.2.2.2.2.1
                simp only [List.length_append, List.length_cons, List.length_nil, rws_len] at hi2
                have st12 := st1.trans st2
                have G12 := G1.trans G2
                have S2' : RtS M2 c2 b n H sc (l ++ [(9, .null)] ++ rws r1.1) (pls ++ [pl] ++ r1.2.1) ((P ++ [4, 1, 3, 4, 1]) ++ [3]) r1.2.2 := by simpa using S2
                obtain ⟨x1, x2⟩ := rt_bind S2' (i := i2) (by omega) k
                cases hb : rdB b n r1.2.2 sc with
                | inl e => rw [sbg_l]; exact RtO.go st12 G12 (x1 e hb)
                | inr u =>
                  rw [sbg_r]
                  obtain ⟨M3, st3, G3, S3⟩ := x2 u hb
                  have st13 := st12.trans st3
                  have G13 := G12.trans G3
                  have hc3 : 2 * c2 + (n - u.2) ≤ 10300 := by have := G13.2.2.1; omega
                  have S3' : RtS M3 c2 b n H (sc ++ [u.1]) (l ++ [(9, .null)] ++ rws r1.1) (pls ++ [pl] ++ r1.2.1) ((P ++ [4, 1, 3, 4]) ++ [1]) u.2 := by simpa using S3
                  have hl3 : (l ++ [(9, (Jvm.Term.null : Tm))] ++ rws r1.1).length = l.length + 1 + r1.2.1.length := by
                    simp only [List.length_append, List.length_cons, List.length_nil, rws_len]
                    omega
                  have hu0 := bnd0 S2'.2.2.2.2.2.2.2.2.1.2 hb
                  have o3 := ih S3' (i := i2 + 1) (fun _ => hu0.2) (by omega) (by omega) hc3 (by rw [hl3]; simp only [List.length_append, List.length_cons, List.length_nil]; omega)
                  rw [hl3] at o3
                  cases hr2 : rdT b n H z u.2 (sc ++ [u.1]) (l.length + 1 + r1.2.1.length) with
                  | inl e => rw [hr2] at o3; rw [sbg_l]; exact RtO.go st13 G13 o3
                  | inr r2 =>
                    rw [hr2] at o3
                    rw [sbg_r]
                    obtain ⟨c4, M4, i4, st4, G4, S4, hi4, J4, J5, J6⟩ := o3
                    have hk2 := rdT_ok hH6 z S3'.2.2.2.2.2.2.2.2.1.2 hr2
                    have hs2 := hk2.2.1
                    have hm2 := hk2.2.2.2.2.1
                    simp only [List.length_append, List.length_cons, List.length_nil, rws_len] at hi4
                    have S4' : RtS M4 c4 b n H (sc ++ [u.1]) (l ++ [(9, .null)] ++ rws r1.1 ++ rws r2.1) (pls ++ [pl] ++ r1.2.1 ++ r2.2.1) ((P ++ [4, 1, 3]) ++ [4]) r2.2.2 := by simpa using S4
                    obtain ⟨M5, st5, G5, S5⟩ := rt_forget S4' (i := i4) (by omega) k
                    have st15 := st13.trans (st4.trans st5)
                    have G15 := (G13.trans G4).trans G5
                    have S5' : RtS M5 c4 b n H sc (l ++ [(9, .null)] ++ rws r1.1 ++ rws r2.1) (pls ++ [pl] ++ r1.2.1 ++ r2.2.1) ((P ++ [4, 1]) ++ [3]) r2.2.2 := by simpa using S5
                    obtain ⟨y1, y2⟩ := rt_bind S5' (i := i4 + 1) (by omega) k
                    cases hb2 : rdB b n r2.2.2 sc with
                    | inl e => rw [sbg_l]; exact RtO.go st15 G15 (y1 e hb2)
                    | inr v =>
                      rw [sbg_r]
                      obtain ⟨M6, st6, G6, S6⟩ := y2 v hb2
                      have st16 := st15.trans st6
                      have G16 := G15.trans G6
                      have hc6 : 2 * c4 + (n - v.2) ≤ 10300 := by have := G16.2.2.1; omega
                      have S6' : RtS M6 c4 b n H (sc ++ [v.1]) (l ++ [(9, .null)] ++ rws r1.1 ++ rws r2.1) (pls ++ [pl] ++ r1.2.1 ++ r2.2.1) ((P ++ [4]) ++ [1]) v.2 := by simpa using S6
                      have hl6 : (l ++ [(9, (Jvm.Term.null : Tm))] ++ rws r1.1 ++ rws r2.1).length = l.length + 1 + r1.2.1.length + r2.2.1.length := by
                        rw [List.length_append, hl3, rws_len]
                        omega
                      have hv0 := bnd0 S5'.2.2.2.2.2.2.2.2.1.2 hb2
                      have o6 := ih S6' (i := i4 + 2) (fun _ => hv0.2) (by omega) (by omega) hc6 (by rw [hl6]; simp only [List.length_append, List.length_cons, List.length_nil]; omega)
                      rw [hl6] at o6
                      cases hr3 : rdT b n H z v.2 (sc ++ [v.1]) (l.length + 1 + r1.2.1.length + r2.2.1.length) with
                      | inl e => rw [hr3] at o6; rw [sbg_l]; exact RtO.go st16 G16 o6
                      | inr r3 =>
                        rw [hr3] at o6
                        rw [sbg_r]
                        obtain ⟨c7, M7, i7, st7, G7, S7, hi7, J8, J9, J10⟩ := o6
                        have hk3 := rdT_ok hH6 z S6'.2.2.2.2.2.2.2.2.1.2 hr3
                        have hs3 := hk3.2.1
                        have hm3 := hk3.2.2.2.2.1
                        simp only [List.length_append, List.length_cons, List.length_nil, rws_len] at hi7
                        obtain ⟨M8, st8, G8, S8⟩ := rt_forget S7 (i := i7) (by omega) k
                        refine ⟨c7, M8, i7 + 1, st16.trans (st7.trans st8), (G16.trans G7).trans G8, ?_, ?_, ?_, J9, J10⟩
                        · have e : l ++ rws (tC r1.1 r2.1 r3.1) = l ++ [(9, .null)] ++ rws r1.1 ++ rws r2.1 ++ rws r3.1 := by rw [rws_C]; simp
                          have e2 : pls ++ (pl :: (r1.2.1 ++ (r2.2.1 ++ r3.2.1))) = pls ++ [pl] ++ r1.2.1 ++ r2.2.1 ++ r3.2.1 := by simp
                          show RtS M8 c7 b n H sc (l ++ rws (tC r1.1 r2.1 r3.1)) (pls ++ (pl :: (r1.2.1 ++ (r2.2.1 ++ r3.2.1)))) P r3.2.2
                          rw [e, e2]
                          exact S8
                        · show i7 + 1 + P.length ≤ 1 + 7 * (l ++ rws (tC r1.1 r2.1 r3.1)).length
                          rw [List.length_append, rws_len, sz_C]
                          omega
                        · show 2 * c7 + 2 * sz (tC r1.1 r2.1 r3.1) + (n - r3.2.2) ≤ _
                          rw [sz_C]
                          exact jC J1 (jz hq1) J2 G3.2.2.1 (jz (Nat.lt_of_lt_of_le J3 hu0.1)) J4 G6.2.2.1 (jz (Nat.lt_of_lt_of_le J5 hv0.1)) J8
            · rw [if_neg h9]
              by_cases h34 : o = 3 ∨ o = 4
              · rw [if_pos h34]
                have hW3 : WrP o = [1, 1] := by
                  unfold WrP
                  rw [if_neg h9, if_neg h2, if_pos h34]
                have hlb : lb0 o = .null := by
                  unfold lb0
                  rw [if_neg (by omega)]
                rw [hW3, hlb] at S1
                have S1' : RtS M1 c b n H sc (l ++ [(o, .null)]) (pls ++ [pl]) ((P ++ [1]) ++ [1]) q0 := by simpa using S1
                have o1 := ih S1' (i := i + 1) (fun _ => hlt) (by simp; omega) (by simp; omega) hc1 (by simp; omega)
                rw [show (l ++ [(o, (Jvm.Term.null : Tm))]).length = l.length + 1 by simp] at o1
                cases hr1 : rdT b n H z q0 sc (l.length + 1) with
                | inl e => rw [hr1] at o1; rw [sbg_l]; exact RtO.go st1 G1 o1
                | inr r1 =>
                  rw [hr1] at o1
                  rw [sbg_r]
                  obtain ⟨c2, M2, i2, st2, G2, S2, hi2, J2, J3, J7⟩ := o1
                  have hk1 := rdT_ok hH6 z S1'.2.2.2.2.2.2.2.2.1.2 hr1
                  have hs1 := hk1.2.1
                  have hm1 := hk1.2.2.2.2.1
                  simp only [List.length_append, List.length_cons, List.length_nil, rws_len] at hi2
                  have st12 := st1.trans st2
                  have G12 := G1.trans G2
                  have hc2 : 2 * c2 + (n - r1.2.2) ≤ 10300 := by have := G12.2.2.1; omega
                  have hl3 : (l ++ [(o, (Jvm.Term.null : Tm))] ++ rws r1.1).length = l.length + 1 + r1.2.1.length := by
                    simp only [List.length_append, List.length_cons, List.length_nil, rws_len]
                    omega
                  have o3 := ih S2 (i := i2) (fun _ => J7) (by omega) (by omega) hc2 (by rw [hl3]; omega)
                  rw [hl3] at o3
                  cases hr2 : rdT b n H z r1.2.2 sc (l.length + 1 + r1.2.1.length) with
                  | inl e => rw [hr2] at o3; rw [sbg_l]; exact RtO.go st12 G12 o3
                  | inr r2 =>
                    rw [hr2] at o3
                    rw [sbg_r]
                    obtain ⟨c4, M4, i4, st4, G4, S4, hi4, J4, J5, J6⟩ := o3
                    have hk2 := rdT_ok hH6 z S2.2.2.2.2.2.2.2.2.1.2 hr2
                    have hs2 := hk2.2.1
                    simp only [List.length_append, List.length_cons, List.length_nil, rws_len] at hi4
                    refine ⟨c4, M4, i4, st12.trans st4, G12.trans G4, ?_, ?_, ?_, J5, J6⟩
                    · have e : l ++ rws (tB o r1.1 r2.1) = l ++ [(o, .null)] ++ rws r1.1 ++ rws r2.1 := by rw [rws_B]; simp
                      have e2 : pls ++ (pl :: (r1.2.1 ++ r2.2.1)) = pls ++ [pl] ++ r1.2.1 ++ r2.2.1 := by simp
                      show RtS M4 c4 b n H sc (l ++ rws (tB o r1.1 r2.1)) (pls ++ (pl :: (r1.2.1 ++ r2.2.1))) P r2.2.2
                      rw [e, e2]
                      exact S4
                    · show i4 + P.length ≤ 1 + 7 * (l ++ rws (tB o r1.1 r2.1)).length
                      rw [List.length_append, rws_len, sz_B]
                      omega
                    · show 2 * c4 + 2 * sz (tB o r1.1 r2.1) + (n - r2.2.2) ≤ _
                      rw [sz_B]
                      exact jB J1 (jz hq1) J2 (jz J3) J4
              · rw [if_neg h34]
                by_cases h56 : o = 5 ∨ o = 6
                · rw [if_pos h56]
                  have hW3 : WrP o = [1] := by
                    unfold WrP
                    rw [if_neg h9, if_neg h2, if_neg h34, if_pos h56]
                  have hlb : lb0 o = .null := by
                    unfold lb0
                    rw [if_neg (by omega)]
                  rw [hW3, hlb] at S1
                  have o1 := ih S1 (i := i + 1) (fun _ => hlt) (by simp; omega) (by simp; omega) hc1 (by simp; omega)
                  rw [show (l ++ [(o, (Jvm.Term.null : Tm))]).length = l.length + 1 by simp] at o1
                  cases hr1 : rdT b n H z q0 sc (l.length + 1) with
                  | inl e => rw [hr1] at o1; rw [sbg_l]; exact RtO.go st1 G1 o1
                  | inr r1 =>
                    rw [hr1] at o1
                    rw [sbg_r]
                    obtain ⟨c2, M2, i2, st2, G2, S2, hi2, J2, J3, J7⟩ := o1
                    have hk1 := rdT_ok hH6 z S1.2.2.2.2.2.2.2.2.1.2 hr1
                    have hs1 := hk1.2.1
                    simp only [List.length_append, List.length_cons, List.length_nil, rws_len] at hi2
                    refine ⟨c2, M2, i2, st1.trans st2, G1.trans G2, ?_, ?_, ?_, J3, J7⟩
                    · have e : l ++ rws (tU o .null r1.1) = l ++ [(o, .null)] ++ rws r1.1 := by rw [rws_U]; simp
                      have e2 : pls ++ (pl :: r1.2.1) = pls ++ [pl] ++ r1.2.1 := by simp
                      show RtS M2 c2 b n H sc (l ++ rws (tU o .null r1.1)) (pls ++ (pl :: r1.2.1)) P r1.2.2
                      rw [e, e2]
                      exact S2
                    · show i2 + P.length ≤ 1 + 7 * (l ++ rws (tU o .null r1.1)).length
                      rw [List.length_append, rws_len, sz_U]
                      omega
                    · show 2 * c2 + 2 * sz (tU o .null r1.1) + (n - r1.2.2) ≤ _
                      rw [sz_U]
                      exact jU J1 (jz hq1) J2
                · rw [if_neg h56]
                  have htf : tf o := by unfold tf; omega
                  have hW3 : WrP o = [1, 2] := by
                    unfold WrP
                    rw [if_neg h9, if_neg h2, if_neg h34, if_neg h56]
                  rw [hW3] at S1
                  have S1' : RtS M1 c b n H sc (l ++ [(o, lb0 o)]) (pls ++ [pl]) ((P ++ [1]) ++ [2]) q0 := by simpa using S1
                  obtain ⟨y1, y2⟩ := rt_form S1' htf (i := i + 1) (by omega) hc1 hlt k
                  cases hs : scan b n 30 q0 1 with
                  | inl e => rw [sbg_l]; exact RtO.go st1 G1 (y1 e hs)
                  | inr w =>
                    rw [sbg_r]
                    obtain ⟨c3, M3, st3, G3, S3⟩ := y2 w hs
                    have st13 := st1.trans st3
                    have G13 := G1.trans G3
                    have hc3 : 2 * c3 + (n - w.2) ≤ 10300 := by have := G13.2.2.1; omega
                    have hse := scan_end (l := w.1) (q := w.2) S1'.2.2.2.2.2.2.2.2.1.2 hlt hs
                    have o4 := ih S3 (i := i + 2) (fun _ => hse.1) (by simp; omega) (by simp; omega) hc3 (by simp; omega)
                    rw [show (l ++ [(o, hdF w.1)]).length = l.length + 1 by simp] at o4
                    cases hr : rdT b n H z w.2 sc (l.length + 1) with
                    | inl e => rw [hr] at o4; rw [sbg_l]; exact RtO.go st13 G13 o4
                    | inr r =>
                      rw [hr] at o4
                      rw [sbg_r]
                      obtain ⟨c4, M4, i4, st4, G4, S4, hi4, J4, J5, J6⟩ := o4
                      have hk := rdT_ok hH6 z S3.2.2.2.2.2.2.2.2.1.2 hr
                      have hsz := hk.2.1
                      simp only [List.length_append, List.length_cons, List.length_nil, rws_len] at hi4
                      refine ⟨c4, M4, i4, st13.trans st4, G13.trans G4, ?_, ?_, ?_, J5, J6⟩
                      · have e : l ++ rws (tU o (hdF w.1) r.1) = l ++ [(o, hdF w.1)] ++ rws r.1 := by rw [rws_U]; simp
                        have e2 : pls ++ (pl :: r.2.1) = pls ++ [pl] ++ r.2.1 := by simp
                        show RtS M4 c4 b n H sc (l ++ rws (tU o (hdF w.1) r.1)) (pls ++ (pl :: r.2.1)) P r.2.2
                        rw [e, e2]
                        exact S4
                      · show i4 + P.length ≤ 1 + 7 * (l ++ rws (tU o (hdF w.1) r.1)).length
                        rw [List.length_append, rws_len, sz_U]
                        omega
                      · show 2 * c4 + 2 * sz (tU o (hdF w.1) r.1) + (n - r.2.2) ≤ _
                        rw [sz_U]
                        exact jG J1 G3.2.2.1 (jz (Nat.lt_of_lt_of_le hq1 hse.2)) J4
      · rw [if_neg hw]
        exact flt _ (Or.inr ⟨hN, Or.inl ⟨hw, rfl⟩⟩)
end RTM
