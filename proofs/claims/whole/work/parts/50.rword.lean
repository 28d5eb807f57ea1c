/-! THE NEXT WORD, in the reference -/
section RW
variable {M : Mem} {b : Nat → Nat} {n : Nat}
theorem wn_57 (hW : Wd M) (hX : TxR M b n) (k : Nat) {q c w : Nat} (hq : M.2.2.1 89 29 = nI q) (hqc : q + c ≤ n) (hw : w < 22) (hc : c = wlen w) : ∀ y i, i + y = wlen w →
    ((∀ j, i ≤ j → j < wlen w → b (q + j) = wch w j) → lp (st_X11_wordNext (k + 4)) (57, [.ref 89, .int (nI c), .int (nI w), .int (nI (woff w)), .int (nI (wlen w)), .int 1, .int (nI i)], M) = lp (st_X11_wordNext (k + 4)) (106, [.ref 89, .int (nI c), .int (nI w), .int (nI (woff w)), .int (nI (wlen w)), .int 1], M)) ∧
    ((¬ ∀ j, i ≤ j → j < wlen w → b (q + j) = wch w j) → lp (st_X11_wordNext (k + 4)) (57, [.ref 89, .int (nI c), .int (nI w), .int (nI (woff w)), .int (nI (wlen w)), .int 1, .int (nI i)], M) = lp (st_X11_wordNext (k + 4)) (106, [.ref 89, .int (nI c), .int (nI w), .int (nI (woff w)), .int (nI (wlen w)), .int 0], M)) := by
  have h6 := hX.2.1
  have hl5 := (wch_is w hw).1
  have ho := woff_is.2 w hw
  intro y
  induction y with
  | zero =>
    intro i hi
    have e : lp (st_X11_wordNext (k + 4)) (57, [.ref 89, .int (nI c), .int (nI w), .int (nI (woff w)), .int (nI (wlen w)), .int 1, .int (nI i)], M) = lp (st_X11_wordNext (k + 4)) (106, [.ref 89, .int (nI c), .int (nI w), .int (nI (woff w)), .int (nI (wlen w)), .int 1], M) := by
      refine (ge_X11_wordNext_57 (k + 4) 89 _ _ _ _ _ _ M).trans ?_
      simp (disch := omega) only [T_X11_wordNext_57, nI_le_]
      rw [if_pos (by omega)]
    exact ⟨fun _ => e, fun h => (h (fun j a b => by omega)).elim⟩
  | succ y ih =>
    intro i hi
    have hb := hX.2.2 (q + i) (by omega)
    have hch := ho.2.2 i (by omega) (by omega)
    have hlt := ((wch_is w hw).2 i (by omega)).1
    have hv : vp_in (nI (woff w + i)) 74 := vp_nI (by omega) (by omega)
    have hq2 : q + i < 600 := by omega
    unfold isLt at hlt
    have step : lp (st_X11_wordNext (k + 4)) (57, [.ref 89, .int (nI c), .int (nI w), .int (nI (woff w)), .int (nI (wlen w)), .int 1, .int (nI i)], M) = if b (q + i) = wch w i then lp (st_X11_wordNext (k + 4)) (57, [.ref 89, .int (nI c), .int (nI w), .int (nI (woff w)), .int (nI (wlen w)), .int 1, .int (nI (i + 1))], M) else lp (st_X11_wordNext (k + 4)) (57, [.ref 89, .int (nI c), .int (nI w), .int (nI (woff w)), .int (nI (wlen w)), .int 0, .int (nI (i + 1))], M) := by
      refine (ge_X11_wordNext_57 (k + 4) 89 _ _ _ _ _ _ M).trans ?_
      simp (disch := omega) only [T_X11_wordNext_57, W_89 hW, gd_true, fO, fA, ex_in, bnd_s, bnd2_s, cal_s, Nat.reduceLT, true_and, and_true, and_self, nI_z, vp_iff, up2_if, Nat.reduceEqDiff, false_and, and_false, if_false, if_true, nI_1, nI_le_, nI_lt_, nI_lt0, nI_eq_, nI_add, hq, show ((1 : Int32) = 0) = False from eq_false (by decide), hb.2, hq2, hv, Nat.le_add_left, hch.1, sb_eq hb.1 (show wch w i < 128 by omega)]
      rw [if_neg (by omega)]
    rw [step]
    by_cases h : b (q + i) = wch w i
    · rw [if_pos h]
      have := ih (i + 1) (by omega)
      refine ⟨fun a => this.1 (fun j x y => a j (by omega) y), fun a => this.2 (fun r => a (fun j x y => ?_))⟩
      by_cases e : j = i
      · rw [e]; exact h
      · exact r j (by omega) y
    · rw [if_neg h]
      refine ⟨fun a => (h (a i (Nat.le_refl _) (by omega))).elim, fun _ => ?_⟩
      refine (ge_X11_wordNext_57 (k + 4) 89 _ _ _ _ _ _ M).trans ?_
      simp (disch := omega) only [T_X11_wordNext_57, if_true, ite_self]
theorem wn_21 (k : Nat) {c w : Nat} (hw : w < 22) (hc : c < 1000) : ∀ y t, t + y = wlen w → lp (st_X11_wordNext (k + 4)) (21, [.ref 89, .int (nI c), .int (nI w), .int (nI (woff w)), .int (nI t)], M) = lp (st_X11_wordNext (k + 4)) (57, [.ref 89, .int (nI c), .int (nI w), .int (nI (woff w)), .int (nI (wlen w)), .int (if wlen w = c then 1 else 0), .int 0], M) := by
  have hl5 := (wch_is w hw).1
  have ho := woff_is.2 w hw
  intro y
  induction y with
  | zero =>
    intro t ht
    have e : t = wlen w := by omega
    subst e
    have hv : vp_in (nI (woff w + wlen w)) 74 := vp_nI (by omega) (by omega)
    refine (ge_X11_wordNext_21 (k + 4) 89 _ _ _ _ M).trans ?_
    simp (disch := omega) only [T_X11_wordNext_21, gd_true, fO, fA, ex_in, bnd_s, bnd2_s, cal_s, Nat.reduceLT, true_and, and_true, and_self, nI_z, vp_iff, up2_if, Nat.reduceEqDiff, false_and, and_false, if_false, if_true, nI_1, nI_le_, nI_lt_, nI_lt0, nI_eq_, nI_add, hv, Nat.le_add_left, ho.2.1]
    by_cases h : wlen w = c
    · rw [if_pos h, if_pos h]
    · rw [if_neg h, if_neg h]
  | succ y ih =>
    intro t ht
    have hch := ho.2.2 t (by omega) (by omega)
    have hlt := ((wch_is w hw).2 t (by omega)).1
    unfold isLt at hlt
    have hv : vp_in (nI (woff w + t)) 74 := vp_nI (by omega) (by omega)
    refine (ge_X11_wordNext_21 (k + 4) 89 _ _ _ _ M).trans ?_
    have hne : (nI (wch w t) = 32) = False := eq_false (fun q => by
      have : wch w t = 32 := (nI_eq (by omega) (by omega)).mp q
      omega)
    simp (disch := omega) only [T_X11_wordNext_21, gd_true, fO, fA, ex_in, bnd_s, bnd2_s, cal_s, Nat.reduceLT, true_and, and_true, and_self, nI_z, vp_iff, up2_if, Nat.reduceEqDiff, false_and, and_false, if_false, if_true, nI_1, nI_le_, nI_lt_, nI_lt0, nI_eq_, nI_add, hv, Nat.le_add_left, hch.1, hne]
    exact ih (t + 1) (by omega)
theorem wn_loop (hW : Wd M) (hX : TxR M b n) (k : Nat) {q c : Nat} (hq : M.2.2.1 89 29 = nI q) (hqc : q + c ≤ n) : ∀ z w, w + z = 22 → lp (st_X11_wordNext (k + 4)) (9, [.ref 89, .int (nI c), .int (nI w), .int (nI (woff w))], M) = some (wfd (isW b q c) z w, M) := by
  have h6 := hX.2.1
  intro z
  induction z with
  | zero =>
    intro w hw
    have e : w = 22 := by omega
    subst e
    refine (ge_X11_wordNext_9 (k + 4) 89 _ _ _ M).trans ?_
    simp (disch := omega) only [T_X11_wordNext_9, woff_is.1, show (74 : Int32) = nI 74 from rfl, nI_le_, Nat.le_refl, if_true, show (2 ≤ k + 4) = True from eq_true (by omega), gd_true]
    rfl
  | succ z ih =>
    intro w hw
    have hw22 : w < 22 := by omega
    have hl5 := (wch_is w hw22).1
    have ho := woff_is.2 w hw22
    have e9 : lp (st_X11_wordNext (k + 4)) (9, [.ref 89, .int (nI c), .int (nI w), .int (nI (woff w))], M) = lp (st_X11_wordNext (k + 4)) (21, [.ref 89, .int (nI c), .int (nI w), .int (nI (woff w)), .int 0], M) := by
      refine (ge_X11_wordNext_9 (k + 4) 89 _ _ _ M).trans ?_
      simp (disch := omega) only [T_X11_wordNext_9, show (74 : Int32) = nI 74 from rfl, nI_le_, show (2 ≤ k + 4) = True from eq_true (by omega), gd_true]
      rw [if_neg (by omega)]
    have e21 := wn_21 (M := M) k hw22 (c := c) (by omega) (wlen w) 0 (by omega)
    have nexts : lp (st_X11_wordNext (k + 4)) (106, [.ref 89, .int (nI c), .int (nI w), .int (nI (woff w)), .int (nI (wlen w)), .int 0], M) = lp (st_X11_wordNext (k + 4)) (9, [.ref 89, .int (nI c), .int (nI (w + 1)), .int (nI (woff (w + 1)))], M) := by
      refine (ge_X11_wordNext_106 (k + 4) 89 _ _ _ _ _ M).trans ?_
      simp (disch := omega) only [T_X11_wordNext_106, if_true, nI_1, nI_add]
      rfl
    rw [e9, show (0 : Int32) = nI 0 from rfl, e21]
    unfold wfd
    by_cases hlen : wlen w = c
    · rw [if_pos hlen]
      have h57 := wn_57 hW hX k hq hqc hw22 hlen.symm (wlen w) 0 (by omega)
      by_cases hm : ∀ j, 0 ≤ j → j < wlen w → b (q + j) = wch w j
      · have hi : isW b q c w := ⟨hlen.symm, fun i hi => hm i (Nat.zero_le _) (by omega)⟩
        rw [if_pos hi]
        refine (h57.1 hm).trans ((ge_X11_wordNext_106 (k + 4) 89 _ _ _ _ _ M).trans ?_)
        simp only [T_X11_wordNext_106, show ((1 : Int32) = 0) = False from eq_false (by decide), if_false]
      · have hi : ¬ isW b q c w := fun q => hm (fun j _ hj => q.2 j (by omega))
        rw [if_neg hi]
        exact (h57.2 hm).trans (nexts.trans (ih (w + 1) (by omega)))
    · have hi : ¬ isW b q c w := fun q => hlen q.1.symm
      rw [if_neg hlen, if_neg hi]
      refine ((ge_X11_wordNext_57 (k + 4) 89 _ _ _ _ _ _ M).trans ?_).trans (nexts.trans (ih (w + 1) (by omega)))
      simp only [T_X11_wordNext_57, if_true, ite_self]
/-- THE NEXT WORD: blanks are passed, which word it is -/
theorem rx_word (hW : Wd M) (hX : TxR M b n) (k : Nat) {p : Nat} (hp : M.2.2.1 89 29 = nI p) (hpn : p ≤ n) : ∃ M1, f_X11_wordNext (k + 4) 89 M = some (wcd b (tq b n p) (te b n p - tq b n p), M1) ∧ Fr SP M M1 ∧ M1.2.2.1 89 29 = nI (tq b n p) := by
  obtain ⟨M1, e, hF, hq⟩ := rx_letters hW hX (k + 1) hp hpn
  have hW1 := hF.Wd hW
  have hX1 := hX.fr hF (by simp [SP]) (by simp [SP])
  have sk := skp_is b (n - p) p
  have lt := lts_is b (n - tq b n p) (tq b n p)
  have h1 : tq b n p ≤ n := by show skp b (n - p) p ≤ n; omega
  have h2 : tq b n p ≤ te b n p := lt.1
  have h3 : te b n p ≤ n := by show lts b (n - tq b n p) (tq b n p) ≤ n; omega
  refine ⟨M1, ?_, hF, hq⟩
  refine (ge_X11_wordNext_0 (k + 4) 89 M).trans ?_
  simp only [T_X11_wordNext_0, W_89 hW, gd_true, fO, fA, ex_in, bnd_s, bnd2_s, cal_s, Nat.reduceLT, true_and, and_true, and_self, nI_z, vp_iff, up2_if, Nat.reduceEqDiff, false_and, and_false, if_false, if_true, nI_1, nI_le_, nI_lt_, nI_lt0, nI_eq_, nI_add, e]
  exact wn_loop hW1 hX1 k hq (c := te b n p - tq b n p) (by omega) 22 0 rfl
theorem tq_tq (b : Nat → Nat) (n p : Nat) (hp : p ≤ n) : tq b n (tq b n p) = tq b n p ∧ te b n (tq b n p) = te b n p := by
  have sk := skp_is b (n - p) p
  have h1 : tq b n p ≤ n := by show skp b (n - p) p ≤ n; omega
  have h2 : tq b n (tq b n p) = tq b n p := by
    show skp b (n - tq b n p) (tq b n p) = tq b n p
    cases hz : n - tq b n p with
    | zero => rfl
    | succ z =>
      show (if b (tq b n p) = 32 then skp b z (tq b n p + 1) else tq b n p) = tq b n p
      exact if_neg (sk.2.2 (by show tq b n p < _; omega))
  refine ⟨h2, ?_⟩
  show lts b (n - tq b n (tq b n p)) (tq b n (tq b n p)) = _
  rw [h2]
end RW
