/-! READING A TERM in the reference: pieces -/
def ScR (M : Mem) (sc : List Nat) : Prop := M.2.2.1 89 39 = nI sc.length ∧ sc.length ≤ 24 ∧ ∀ i, i < sc.length → NmR M 111 112 i (sc.getD i 0)
def PcR (M : Mem) (pls : List Nat) : Prop := ∀ i x, pls[i]? = some x → M.2.2.1 110 i = nI x
section RRT
variable {M M1 : Mem} {b : Nat → Nat} {n : Nat} {c : Nat} {H : List (Nat × Fm)} {sc : List Nat}
theorem NmR.mv {a l j nm : Nat} (h : NmR M a l j nm) (e1 : M1.2.2.1 l j = M.2.2.1 l j) (e2 : ∀ i, i < 4 → M1.2.2.1 a (4 * j + i) = M.2.2.1 a (4 * j + i)) : NmR M1 a l j nm := by
  obtain ⟨f, d, h1, h2, h3, h4⟩ := h
  exact ⟨f, d, h1, h2, e1.trans h3, fun i hi => (e2 i (by have := h1.2.1; omega)).trans (h4 i hi)⟩
theorem ScR.mv (h : ScR M sc) {S : Nat → Nat → Prop} (hF : Fr S M M1) (h1 : ¬ S 89 39) (h2 : ∀ k, ¬ S 111 k) (h3 : ∀ k, ¬ S 112 k) : ScR M1 sc := ⟨(hF.int h1).trans h.1, h.2.1, fun i q => (h.2.2 i q).mv (hF.int (h3 _)) (fun _ _ => hF.int (h2 _))⟩
theorem PcR.mv {pls : List Nat} (h : PcR M pls) {S : Nat → Nat → Prop} (hF : Fr S M M1) (h2 : ∀ k, ¬ S 110 k) : PcR M1 pls := fun i x q => (hF.int (h2 i)).trans (h i x q)
theorem HyR.mv (h : HyR M 15 96 97 98 c H) {c1 : Nat} {S : Nat → Nat → Prop} (hF : Fr S M M1) (h1 : ¬ S 89 15) (h2 : ∀ a k, S a k → ¬ (96 ≤ a ∧ a ≤ 98)) (hd : ∀ i, i < c → dR M1 i = dR M i) (hc : c ≤ c1) : HyR M1 15 96 97 98 c1 H := by
  refine ⟨(hF.int h1).trans h.1, h.2.1, fun j hj => ?_⟩
  obtain ⟨g1, v, g2, g3, g4⟩ := h.2.2 j hj
  exact ⟨g1.mv (hF.int (fun q => h2 _ _ q (by omega))) (fun _ _ => hF.int (fun q => h2 _ _ q (by omega))), v, by omega, (hF.int (fun q => h2 _ _ q (by omega))).trans g3, (hd v g2).trans g4⟩
def mgR (x : Option Tm) : Int32 := match x with
  | some t => nv t
  | none => -7
theorem meant_38 (hW : Wd M) (hX : TxR M b n) {p : Nat} (hp : p ≤ n) (h29 : M.2.2.1 89 29 = nI (tq b n p)) (hN : isN b n p) (hH : HyR M 15 96 97 98 c H) (k : Nat) : ∀ z j, j + z = H.length → lp (st_X11_meant (k + 1)) (38, [.ref 89, .int (nI (te b n p - tq b n p)), .int (nI j)], M) = some ((match fstI H (nmAt b n p) z j with | some i => -1 - nI i | none => -7), M) := by
  have hO := fO_R hW
  have h6 := hH.2.1
  have hle := tq_le b n p hp
  have hok := hN.ok
  intro z
  induction z with
  | zero =>
    intro j hj
    refine (ge_X11_meant_38 (k + 1) 89 _ (nI j) M).trans ?_
    unfold T_X11_meant_38
    simp (disch := omega) only [↓reduceIte, ↓gd_pos hO, hH.1, nI_le_, eq_true (show H.length ≤ j by omega)]
    rfl
  | succ z ih =>
    intro j hj
    obtain ⟨g1, -⟩ := hH.2.2 j (by omega)
    obtain ⟨i1, i2⟩ := rx_isNamed hW hX k h29 (c := te b n p - tq b n p) (by omega) (fun i hi => hok.2.2 i hi) (a := 96) (l := 97) (by omega) (by omega) (s_96 hW) (s_97 hW) (by omega) (by omega) (by omega) g1
    have hgd : (H.getD j (0, .arg 0)).1 = (H[j]'(by omega)).1 := by
      rw [List.getD_eq_getElem?_getD, List.getElem?_eq_getElem (by omega)]
      rfl
    refine (ge_X11_meant_38 (k + 1) 89 _ (nI j) M).trans ?_
    unfold T_X11_meant_38 fstI
    rw [hgd]
    by_cases q : (H[j]'(by omega)).1 = nmAt b n p
    · have e := i1 ⟨hok.1, hok.2.1, q.symm⟩
      rw [if_pos q]
      simp (disch := omega) only [↓reduceIte, ↓gd_pos hO, hH.1, nI_le_, eq_false (show ¬ H.length ≤ j by omega), ↓bnd_of (r_89_9 hW), ↓bnd_of (r_89_10 hW), ↓bnd2_of (show cal (k + 1) (fun zz => f_X11_isNamed zz 89 96 97 (nI j) (nI (te b n p - tq b n p)) M) = _ from e), show ((1 : Int32) = 0) = False from eq_false (by decide)]
    · have e := i2 (fun x => q x.2.2.symm) hok.2.1
      rw [if_neg q, ← ih (j + 1) (by omega)]
      simp (disch := omega) only [↓reduceIte, ↓gd_pos hO, hH.1, nI_le_, eq_false (show ¬ H.length ≤ j by omega), ↓bnd_of (r_89_9 hW), ↓bnd_of (r_89_10 hW), ↓bnd2_of (show cal (k + 1) (fun zz => f_X11_isNamed zz 89 96 97 (nI j) (nI (te b n p - tq b n p)) M) = _ from e), nI_1]
theorem meant_7 (hW : Wd M) (hX : TxR M b n) {p : Nat} (hp : p ≤ n) (h29 : M.2.2.1 89 29 = nI (tq b n p)) (hN : isN b n p) (hS : ScR M sc) (k : Nat) : ∀ z, z ≤ sc.length → lp (st_X11_meant (k + 1)) (7, [.ref 89, .int (nI (te b n p - tq b n p)), .int (pm z)], M) = (match lstI sc (nmAt b n p) z with | some i => some (nI i, M) | none => lp (st_X11_meant (k + 1)) (38, [.ref 89, .int (nI (te b n p - tq b n p)), .int (nI 0)], M)) := by
  have hO := fO_R hW
  have h24 := hS.2.1
  have hle := tq_le b n p hp
  have hok := hN.ok
  intro z
  induction z with
  | zero =>
    intro _
    refine (ge_X11_meant_7 (k + 1) 89 _ (pm 0) M).trans ?_
    unfold T_X11_meant_7
    simp only [↓reduceIte, show (pm 0 < (0 : Int32)) = True from eq_true (by decide)]
    rfl
  | succ z ih =>
    intro hz
    obtain ⟨i1, i2⟩ := rx_isNamed hW hX k h29 (c := te b n p - tq b n p) (by omega) (fun i hi => hok.2.2 i hi) (a := 111) (l := 112) (by omega) (by omega) (s_111 hW) (s_112 hW) (by omega) (by omega) (by omega) (hS.2.2 z (by omega))
    refine (ge_X11_meant_7 (k + 1) 89 _ (nI z) M).trans ?_
    unfold T_X11_meant_7 lstI
    by_cases q : sc.getD z 0 = nmAt b n p
    · have e := i1 ⟨hok.1, hok.2.1, q.symm⟩
      rw [if_pos q]
      simp (disch := omega) only [↓reduceIte, nI_lt0, ↓gd_pos hO, ↓bnd_of (r_89_37 hW), ↓bnd_of (r_89_38 hW), ↓bnd2_of (show cal (k + 1) (fun zz => f_X11_isNamed zz 89 111 112 (nI z) (nI (te b n p - tq b n p)) M) = _ from e), show ((1 : Int32) = 0) = False from eq_false (by decide)]
    · have e := i2 (fun x => q x.2.2.symm) hok.2.1
      rw [if_neg q, ← ih (by omega)]
      simp (disch := omega) only [↓reduceIte, nI_lt0, ↓gd_pos hO, ↓bnd_of (r_89_37 hW), ↓bnd_of (r_89_38 hW), ↓bnd2_of (show cal (k + 1) (fun zz => f_X11_isNamed zz 89 111 112 (nI z) (nI (te b n p - tq b n p)) M) = _ from e), pm_dec]
theorem rx_meant (hW : Wd M) (hX : TxR M b n) {p : Nat} (hp : p ≤ n) (h29 : M.2.2.1 89 29 = nI (tq b n p)) (hN : isN b n p) (hS : ScR M sc) (hH : HyR M 15 96 97 98 c H) (k : Nat) : f_X11_meant (k + 1) 89 (nI (te b n p - tq b n p)) M = some (mgR (mng sc H (nmAt b n p)), M) := by
  have hO := fO_R hW
  have h24 := hS.2.1
  have e0 : f_X11_meant (k + 1) 89 (nI (te b n p - tq b n p)) M = lp (st_X11_meant (k + 1)) (7, [.ref 89, .int (nI (te b n p - tq b n p)), .int (pm sc.length)], M) := by
    refine (ge_X11_meant_0 (k + 1) 89 _ M).trans ?_
    unfold T_X11_meant_0
    simp only [↓gd_pos hO, hS.1, pm_sub]
  rw [e0, meant_7 hW hX hp h29 hN hS k sc.length (Nat.le_refl _)]
  unfold mng
  cases lstI sc (nmAt b n p) sc.length with
  | some i => rfl
  | none =>
    show lp _ _ = _
    rw [meant_38 hW hX hp h29 hN hH k H.length 0 (by omega)]
    cases fstI H (nmAt b n p) H.length 0 with
    | some i => rfl
    | none => rfl
/-- a node is added -/
theorem adds_eq (k : Nat) (x y z : Int32) (M : Mem) : f_X11_adds k 89 x y z M = T_X11_adds_0 (fun c l M => lp (st_X11_adds k) (c, l, M)) (fun v M => some (v, M)) none k 89 x y z M := ge_X11_adds_0 k 89 x y z M
theorem ad_22d (hW : Wd M) (k : Nat) (x y z : Int32) (h : ¬ M.2.2.1 89 30 = 0) : lp (st_X11_adds k) (22, [.ref 89, .int x, .int y, .int z], M) = some ((), M) := by
  refine (ge_X11_adds_22 k 89 x y z M).trans ?_
  have hO := fO_R hW
  unfold T_X11_adds_22
  simp only [↓reduceIte, ↓gd_pos hO, h]
abbrev adR (M : Mem) (m : Nat) (x y z : Int32) : Mem := wI (wI (wI (wI M 110 m x) 105 m y) 106 m z) 89 24 (nI (m + 1))
theorem rx_adds (hW : Wd M) (hX : TxR M b n) {p m : Nat} (hp : p ≤ n) (h29 : M.2.2.1 89 29 = nI (tq b n p)) (h24 : M.2.2.1 89 24 = nI m) (hm : m ≤ 120) (k : Nat) (x y z : Int32) : (¬ M.2.2.1 89 30 = 0 → f_X11_adds (k + 3) 89 x y z M = some ((), M)) ∧ (M.2.2.1 89 30 = 0 → m = 120 → f_X11_adds (k + 3) 89 x y z M = some ((), wI (wI M 89 30 4) 89 31 x)) ∧ (M.2.2.1 89 30 = 0 → m < 120 → ∃ M1, f_X11_adds (k + 3) 89 x y z M = some ((), wI M1 89 29 (nI (te b n p))) ∧ Fr SP (adR M m x y z) M1) := by
  have hO := fO_R hW
  refine ⟨fun h => ?_, fun h h120 => ?_, fun h h120 => ?_⟩
  · rw [adds_eq, ← ad_22d hW (k + 3) x y z h]
    unfold T_X11_adds_0
    simp only [↓reduceIte, ↓gd_pos hO, h]
  · have ef := (rx_fails hW (k + 2) 4 x).1 h
    have hW2 : Wd (wI (wI M 89 30 4) 89 31 x) := (hW.wI _ _ _).wI _ _ _
    obtain ⟨m', hm'⟩ : ∃ m', m' = k + 2 := ⟨_, rfl⟩
    rw [← hm'] at ef
    rw [show k + 3 = m' + 1 by omega, adds_eq, ← ad_22d hW2 (m' + 1) x y z (by simp [up2_if])]
    unfold T_X11_adds_0
    simp (disch := omega) only [↓reduceIte, ↓gd_pos hO, h, h24, show (120 : Int32) = nI 120 from rfl, nI_eq_, eq_true h120, ↓bnd2_of (show cal (m' + 1) (fun zz => f_X11_fails zz 89 4 x M) = _ from ef)]
  · have W' : Wd (adR M m x y z) := (((hW.wI _ _ _).wI _ _ _).wI _ _ _).wI _ _ _
    have FA : Fr (fun a k => a = 110 ∨ a = 105 ∨ a = 106 ∨ (a = 89 ∧ k = 24)) M (adR M m x y z) := (((Fr.refl.wI (Or.inl rfl) _).wI (Or.inr (Or.inl rfl)) _).wI (Or.inr (Or.inr (Or.inl rfl))) _).wI (Or.inr (Or.inr (Or.inr ⟨rfl, rfl⟩))) _
    have X' : TxR (adR M m x y z) b n := hX.fr FA (by omega) (by omega)
    have h29' : (adR M m x y z).2.2.1 89 29 = nI (tq b n p) := by simp [up2_if, h29]
    have hle := tq_le b n p hp
    have h6 := hX.2.1
    obtain ⟨M1, e1, F1, g1⟩ := rx_letters W' X' k h29' (by omega)
    rw [(tq_tq b n p hp).1, (tq_tq b n p hp).2] at e1
    rw [(tq_tq b n p hp).1] at g1
    have hW1 := F1.Wd W'
    have hO1 := fO_R hW1
    refine ⟨M1, ?_, F1⟩
    obtain ⟨m', hm'⟩ : ∃ m', m' = k + 2 := ⟨_, rfl⟩
    rw [← hm'] at e1
    have z1 : (nI m).toNatClampNeg = m := nI_z (by omega)
    have hA := fA_R hW (a := 110) (by omega) (s_110 hW) (show m < 400 by omega) (by omega)
    have hB := fA_R ((hW.wI 110 m x)) (a := 105) (by omega) (s_105 (hW.wI 110 m x)) (show m < 400 by omega) (by omega)
    have hC := fA_R ((hW.wI 110 m x).wI 105 m y) (a := 106) (by omega) (s_106 ((hW.wI 110 m x).wI 105 m y)) (show m < 400 by omega) (by omega)
    rw [show k + 3 = m' + 1 by omega, adds_eq]
    have e22 : lp (st_X11_adds (m' + 1)) (22, [.ref 89, .int x, .int y, .int z], M) = some ((), wI M1 89 29 (nI (te b n p))) := by
      refine (ge_X11_adds_22 (m' + 1) 89 x y z M).trans ?_
      have hm4 : m < 400 := by omega
      have s29 : nI (tq b n p) + nI (te b n p - tq b n p) = nI (te b n p) := by
        rw [nI_add, show tq b n p + (te b n p - tq b n p) = te b n p by omega]
      simp (disch := omega) only [T_X11_adds_22, h, if_true, W_89 hW, W_89 hW1, gd_true, fO, fA, ex_in, bnd_s, Nat.reduceLT, Nat.reduceEqDiff, true_and, and_self, and_false, h24, h29, up2_if, false_and, if_false, nI_z, vp_iff, hm4, nI_1, cal_s, e1, bnd2_s, s29]
    rw [← e22]
    unfold T_X11_adds_0
    simp (disch := omega) only [↓reduceIte, ↓gd_pos hO, h, h24, show (120 : Int32) = nI 120 from rfl, nI_eq_, eq_false (show ¬ m = 120 by omega)]
end RRT
