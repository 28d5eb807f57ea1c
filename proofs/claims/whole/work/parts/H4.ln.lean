/-! LINES: what they are; the class's table of lines -/
abbrev Ln : Type := Nat × Fm × Nat × (Nat → Int32)
def frm3 (a b c : Int32) : Nat → Int32 := fun j => if j = 0 then a else if j = 1 then b else c
def fL : Fm → Fm
  | .sub a _ => a
  | f => f
def fR : Fm → Fm
  | .sub _ b => b
  | f => f
def noF : Nat → Int32 := fun _ => -1
abbrev lnT (acc : List Ln) (f : Fm) (d : Nat) : List Ln := acc ++ [(1, f, d, noF)]
abbrev lnE (r : List Ln) (o : Nat) (f : Fm) (d : Nat) (a b c : Int32) : Nat × List Ln := (r.length, r ++ [(o, f, d, frm3 a b c)])
/-- the lines of a term: the line that it is, and all of them -/
def lnF (tl : Nat → Fm) : Tm → Nat → Nat → (Nat → Nat) → List Ln → Nat × List Ln
  | .index k, _, _, A, acc => (A k, acc)
  | .arg k, _, _, _, acc => (k, acc)
  | .elem (.rem (.index o) f) a, p, d, A, acc => if o = 2 then lnE (lnF tl a (p + 1) (d + 1) (ups A d acc.length) (lnT acc f (d + 1))).2 2 (tl p) d (nI acc.length) (nI (lnF tl a (p + 1) (d + 1) (ups A d acc.length) (lnT acc f (d + 1))).1) (-1) else lnE (lnF tl a (p + 1) d A acc).2 o (tl p) d (nI (lnF tl a (p + 1) d A acc).1) (-1) (-1)
  | .div (.rem (.index o) a) b, p, d, A, acc => lnE (lnF tl b (p + 1 + sz a) d A (lnF tl a (p + 1) d A acc).2).2 o (tl p) d (nI (lnF tl a (p + 1) d A acc).1) (nI (lnF tl b (p + 1 + sz a) d A (lnF tl a (p + 1) d A acc).2).1) (-1)
  | .sub (.rem m a) b, p, d, A, acc =>
    let r := lnF tl m (p + 1) d A acc
    let s := lnF tl a (p + 1 + sz m) (d + 1) (ups A d r.2.length) (lnT r.2 (fL (tl (p + 1))) (d + 1))
    let u := lnF tl b (p + 1 + sz m + sz a) (d + 1) (ups A d s.2.length) (lnT s.2 (fR (tl (p + 1))) (d + 1))
    lnE u.2 9 (tl p) d (nI r.1) (nI s.1) (nI u.1)
  | _, _, _, _, acc => (0, acc)
section LNF
variable {tl : Nat → Fm} {o k p d : Nat} {f a b m : Tm} {A : Nat → Nat} {acc : List Ln}
theorem lnF_L : lnF tl (tL k) p d A acc = (A k, acc) := rfl
theorem lnF_H : lnF tl (tH k) p d A acc = (k, acc) := rfl
theorem lnF_2 {r : Nat × List Ln} (hr : r = lnF tl a (p + 1) (d + 1) (ups A d acc.length) (lnT acc f (d + 1))) : lnF tl (tU 2 f a) p d A acc = lnE r.2 2 (tl p) d (nI acc.length) (nI r.1) (-1) := by subst hr; rfl
theorem lnF_U (h : o ≠ 2) {r : Nat × List Ln} (hr : r = lnF tl a (p + 1) d A acc) : lnF tl (tU o f a) p d A acc = lnE r.2 o (tl p) d (nI r.1) (-1) (-1) := by
  subst hr
  show (if o = 2 then _ else _) = _
  rw [if_neg h]
theorem lnF_B {r s : Nat × List Ln} (hr : r = lnF tl a (p + 1) d A acc) (hs : s = lnF tl b (p + 1 + sz a) d A r.2) : lnF tl (tB o a b) p d A acc = lnE s.2 o (tl p) d (nI r.1) (nI s.1) (-1) := by subst hr; subst hs; rfl
theorem lnF_C {r s u : Nat × List Ln} (hr : r = lnF tl m (p + 1) d A acc) (hs : s = lnF tl a (p + 1 + sz m) (d + 1) (ups A d r.2.length) (lnT r.2 (fL (tl (p + 1))) (d + 1))) (hu : u = lnF tl b (p + 1 + sz m + sz a) (d + 1) (ups A d s.2.length) (lnT s.2 (fR (tl (p + 1))) (d + 1))) : lnF tl (tC m a b) p d A acc = lnE u.2 9 (tl p) d (nI r.1) (nI s.1) (nI u.1) := by subst hr; subst hs; subst hu; rfl
end LNF
theorem pre_ap {a b : List Ln} (h : ∃ s, b = a ++ s) (c : List Ln) : ∃ s, b ++ c = a ++ s := by
  obtain ⟨s, rfl⟩ := h
  exact ⟨s ++ c, by rw [List.append_assoc]⟩
theorem pre_t {a b c : List Ln} (h : ∃ s, b = a ++ s) (k : ∃ s, c = b ++ s) : ∃ s, c = a ++ s := by
  obtain ⟨s, rfl⟩ := h
  obtain ⟨u, rfl⟩ := k
  exact ⟨s ++ u, by rw [List.append_assoc]⟩
theorem pre_r (a : List Ln) : ∃ s, a = a ++ s := ⟨[], by simp⟩
theorem lnF_len (tl : Nat → Fm) : ∀ t, isT t → ∀ (p d : Nat) (A : Nat → Nat) (acc : List Ln), (lnF tl t p d A acc).2.length + 1 ≤ acc.length + 2 * sz t ∧ ∃ s, (lnF tl t p d A acc).2 = acc ++ s := by
  apply tm_ind
  · intro k p d A acc; rw [lnF_L, sz_L]; exact ⟨by show acc.length + 1 ≤ _; omega, [], by simp⟩
  · intro k p d A acc; rw [lnF_H, sz_H]; exact ⟨by show acc.length + 1 ≤ _; omega, [], by simp⟩
  · intro o f a ho ha ih p d A acc
    by_cases h : o = 2
    · subst h
      rw [lnF_2 rfl, sz_U]
      obtain ⟨h1, h2⟩ := ih (p + 1) (d + 1) (ups A d acc.length) (lnT acc f (d + 1))
      rw [List.length_append] at h1
      simp only [List.length_cons, List.length_nil] at h1
      refine ⟨?_, pre_ap (pre_t (pre_ap (pre_r acc) _) h2) _⟩
      simp only [List.length_append, List.length_cons, List.length_nil]
      omega
    · rw [lnF_U h rfl, sz_U]
      obtain ⟨h1, h2⟩ := ih (p + 1) d A acc
      refine ⟨?_, pre_ap h2 _⟩
      simp only [List.length_append, List.length_cons, List.length_nil]
      omega
  · intro o a b ho ha hb ia ib p d A acc
    rw [lnF_B rfl rfl, sz_B]
    obtain ⟨h1, h2⟩ := ia (p + 1) d A acc
    obtain ⟨h3, h4⟩ := ib (p + 1 + sz a) d A (lnF tl a (p + 1) d A acc).2
    refine ⟨?_, pre_ap (pre_t h2 h4) _⟩
    simp only [List.length_append, List.length_cons, List.length_nil]
    omega
  · intro m a b hm ha hb im ia ib p d A acc
    obtain ⟨r, hr⟩ : ∃ r, r = lnF tl m (p + 1) d A acc := ⟨_, rfl⟩
    obtain ⟨s, hs⟩ : ∃ s, s = lnF tl a (p + 1 + sz m) (d + 1) (ups A d r.2.length) (lnT r.2 (fL (tl (p + 1))) (d + 1)) := ⟨_, rfl⟩
    obtain ⟨u, hu⟩ : ∃ u, u = lnF tl b (p + 1 + sz m + sz a) (d + 1) (ups A d s.2.length) (lnT s.2 (fR (tl (p + 1))) (d + 1)) := ⟨_, rfl⟩
    rw [lnF_C hr hs hu, sz_C]
    obtain ⟨h1, e1⟩ := im (p + 1) d A acc
    rw [← hr] at h1 e1
    obtain ⟨h2, e2⟩ := ia (p + 1 + sz m) (d + 1) (ups A d r.2.length) (lnT r.2 (fL (tl (p + 1))) (d + 1))
    rw [← hs] at h2 e2
    obtain ⟨h3, e3⟩ := ib (p + 1 + sz m + sz a) (d + 1) (ups A d s.2.length) (lnT s.2 (fR (tl (p + 1))) (d + 1))
    rw [← hu] at h3 e3
    simp only [List.length_append, List.length_cons, List.length_nil] at h2 h3
    refine ⟨?_, pre_ap (pre_t (pre_t e1 (pre_t (pre_ap (pre_r _) _) e2)) (pre_t (pre_ap (pre_r _) _) e3)) _⟩
    simp only [List.length_append, List.length_cons, List.length_nil]
    omega
/-- the class's table of lines -/
def LnC (M : Mem) (c : Nat) (acc : List Ln) : Prop := M.2.2.1 67 7 = nI acc.length ∧ acc.length ≤ 406 ∧ ∀ i e, acc[i]? = some e → M.2.2.1 68 i = nI e.1 ∧ (∃ v, v < c ∧ M.2.2.1 69 i = nI v ∧ dC M v = e.2.1) ∧ M.2.2.1 70 i = nI e.2.2.1 ∧ ∀ j, j < 3 → M.2.2.1 71 (i * 3 + j) = e.2.2.2 j
def S67 (a k : Nat) : Prop := (a = 67 ∧ k = 7) ∨ (68 ≤ a ∧ a ≤ 71)
section LNC
variable {M M1 : Mem} {c n : Nat} {acc : List Ln}
theorem fO67 (hW : Wd M) : fO M 67 4 := ⟨by rw [hW.1]; omega, s_67 hW⟩
theorem fA_C (hW : Wd M) {a z i : Nat} (ha : a < 126) (hs : M.2.1 a = .inl (1, z)) (hi : i < z) (hz : z ≤ 70000) : fA M a 1 (nI i) := ⟨by rw [hW.1]; exact ha, z, hs, vp_nI hi hz⟩
theorem c_atG (hW : Wd M) (k : Nat) {a z i : Nat} (ha : a < 126) (hs : M.2.1 a = .inl (1, z)) (hi : i < z) (hz : z ≤ 70000) : f_X10_at k a (nI i) M = some (M.2.2.1 a i, M) := by
  have e : aLen M a = some z := by unfold aLen; rw [hW.1, if_pos ha, hs]; rfl
  have hn0 : (nI i < (0 : Int32)) = False := nI_lt0 (by omega)
  have hle : (Int32.ofNat z ≤ nI i) = False := eq_false (by rw [show Int32.ofNat z = nI z from rfl, nI_le_ (by omega) (by omega)]; omega)
  show T_X10_at_0 (fun v M => some (v, M)) none k a (nI i) M = _
  unfold T_X10_at_0
  simp (disch := omega) only [hn0, ↓reduceIte, ↓bnd_of e, hle, ↓gd_pos (fA_C hW ha hs hi hz), nI_z]
theorem LnC.fr {S : Nat → Nat → Prop} (h : LnC M c acc) (hF : Fr S M M1) (hS : ∀ a k, S a k → ¬ (a = 67 ∧ k = 7) ∧ ¬ (68 ≤ a ∧ a ≤ 71)) (hd : ∀ i, dC M1 i = dC M i) : LnC M1 c acc := by
  refine ⟨(hF.int (fun q => (hS _ _ q).1 (by omega))).trans h.1, h.2.1, fun i e hi => ?_⟩
  obtain ⟨h1, ⟨v, v1, v2, v3⟩, h3, h4⟩ := h.2.2 i e hi
  exact ⟨(hF.int (fun q => (hS _ _ q).2 (by omega))).trans h1, ⟨v, v1, (hF.int (fun q => (hS _ _ q).2 (by omega))).trans v2, (hd v).trans v3⟩, (hF.int (fun q => (hS _ _ q).2 (by omega))).trans h3, fun j hj => (hF.int (fun q => (hS _ _ q).2 (by omega))).trans (h4 j hj)⟩
theorem dC_67 (hF : Fr S67 M M1) : ∀ i, dC M1 i = dC M i := fun i => by rw [dC_fq hF.q (by unfold S67; omega) (by unfold S67; omega) (by unfold S67; omega)]
theorem al_52 (hW : Wd M) {L : Nat} (hL : L < 406) : ∀ z j, j + z = 3 → ∀ (M : Mem), Wd M → M.2.2.1 67 7 = nI L → ∃ M1, lp (st_X4_addLine n) (52, [.ref 67, .int (nI L), .int (nI j)], M) = some (nI L, M1) ∧ M1.2.2.1 67 7 = nI (L + 1) ∧ (∀ i, j ≤ i → i < 3 → M1.2.2.1 71 (L * 3 + i) = -1) ∧ Fr (fun a k => (a = 67 ∧ k = 7) ∨ (a = 71 ∧ L * 3 + j ≤ k ∧ k < L * 3 + 3)) M M1 := by
  intro z
  induction z with
  | zero =>
    intro j hj M hW h7
    have : j = 3 := by omega
    subst this
    refine ⟨wI M 67 7 (nI (L + 1)), ?_, by simp [up2_if], fun i h1 h2 => by omega, Fr.refl.wI (Or.inl ⟨rfl, rfl⟩) _⟩
    refine (ge_X4_addLine_52 n 67 (nI L) (nI 3) M).trans ?_
    unfold T_X4_addLine_52
    simp only [show ((3 : Int32) ≤ nI 3) = True from eq_true (by decide), ↓reduceIte, ↓gd_pos (fO67 hW), h7, nI_1]
  | succ z ih =>
    intro j hj M hW h7
    have hle : ((3 : Int32) ≤ nI j) = False := eq_false (by rw [show (3 : Int32) = nI 3 from rfl, nI_le_ (by omega) (by omega)]; omega)
    have ei : nI L * 3 + nI j = nI (L * 3 + j) := by rw [show (3 : Int32) = nI 3 from rfl, nI_mul, nI_add]
    have fA : fA M 71 1 (nI (L * 3 + j)) := fA_C hW (by omega) (s_71 hW) (by omega) (by omega)
    have F : Fr (fun a k => (a = 67 ∧ k = 7) ∨ (a = 71 ∧ L * 3 + j ≤ k ∧ k < L * 3 + 3)) M (wI M 71 (L * 3 + j) (-1)) := Fr.refl.wI (Or.inr ⟨rfl, by omega, by omega⟩) _
    obtain ⟨M1, e1, g1, g2, F1⟩ := ih (j + 1) (by omega) (wI M 71 (L * 3 + j) (-1)) (F.Wd hW) (by simp [up2_if]; exact h7)
    refine ⟨M1, ?_, g1, fun i h1 h2 => ?_, F.trans (F1.mono (fun a k q => by omega))⟩
    · refine (ge_X4_addLine_52 n 67 (nI L) (nI j) M).trans ?_
      unfold T_X4_addLine_52
      simp (disch := omega) only [hle, ↓reduceIte, ↓gd_pos (fO67 hW), ↓bnd_of (r_67_4 hW), ei, ↓gd_pos fA, nI_z, nI_1]
      exact e1
    · by_cases e : i = j
      · subst e
        rw [F1.int (by omega)]
        simp [up2_if]
      · exact g2 i (by omega) h2
theorem c_addLine (hW : Wd M) (h : LnC M c acc) (hl : acc.length < 406) {v : Nat} (hv : v < c) (rule deep : Nat) : ∃ M1, f_X4_addLine n 67 (nI rule) (nI v) (nI deep) M = some (nI acc.length, M1) ∧ Fr S67 M M1 ∧ LnC M1 c (acc ++ [(rule, dC M v, deep, noF)]) := by
  obtain ⟨L, hL⟩ : ∃ L, L = acc.length := ⟨_, rfl⟩
  rw [← hL] at hl ⊢
  have h7 := h.1
  rw [← hL] at h7
  obtain ⟨M0, hM0⟩ : ∃ M0, M0 = wI (wI (wI M 68 L (nI rule)) 69 L (nI v)) 70 L (nI deep) := ⟨_, rfl⟩
  have F0 : Fr (fun a k => (a = 68 ∨ a = 69 ∨ a = 70) ∧ k = L) M M0 := by
    rw [hM0]
    exact ((Fr.refl.wI ⟨by omega, rfl⟩ _).wI ⟨by omega, rfl⟩ _).wI ⟨by omega, rfl⟩ _
  obtain ⟨M1, e1, g1, g2, F1⟩ := al_52 (n := n) hW hl 3 0 (by omega) M0 (F0.Wd hW) ((F0.int (by omega)).trans h7)
  have F : Fr S67 M M1 := (F0.mono (fun a k q => by unfold S67; omega)).trans (F1.mono (fun a k q => by unfold S67; omega))
  have d1 := dC_67 F
  refine ⟨M1, ?_, F, by rw [g1, List.length_append, ← hL]; rfl, by rw [List.length_append, ← hL]; simp; omega, fun i e hi => ?_⟩
  · refine (ge_X4_addLine_0 n 67 (nI rule) (nI v) (nI deep) M).trans ?_
    unfold T_X4_addLine_0
    have hn0 : (nI L < (0 : Int32)) = False := nI_lt0 (by omega)
    have h406 : (nI L < (406 : Int32)) = True := eq_true (by rw [show (406 : Int32) = nI 406 from rfl, nI_lt_ (by omega) (by omega)]; exact hl)
    have f8 : fA M 68 1 (nI L) := fA_C hW (by omega) (s_68 hW) hl (by omega)
    have f9 : fA M 69 1 (nI L) := fA_C hW (by omega) (s_69 hW) hl (by omega)
    have f70 : fA M 70 1 (nI L) := fA_C hW (by omega) (s_70 hW) hl (by omega)
    simp (disch := omega) only [↓gd_pos (fO67 hW), h7, hn0, ↓reduceIte, h406, ↓bnd_of (r_67_1 hW), ↓gd_pos f8, ↓bnd_of (r_67_2 hW), ↓gd_pos f9, ↓bnd_of (r_67_3 hW), ↓gd_pos f70, nI_z, ← hM0]
    exact e1
  · by_cases hil : i < acc.length
    · rw [List.getElem?_append_left hil] at hi
      obtain ⟨b1, ⟨u, u1, u2, u3⟩, b3, b4⟩ := h.2.2 i e hi
      have o0 : ∀ a, (a = 68 ∨ a = 69 ∨ a = 70) → M1.2.2.1 a i = M.2.2.1 a i := fun a ha => (F1.int (by omega)).trans (F0.int (by omega))
      exact ⟨(o0 68 (by omega)).trans b1, ⟨u, u1, (o0 69 (by omega)).trans u2, (d1 u).trans u3⟩, (o0 70 (by omega)).trans b3, fun j hj => ((F1.int (by omega)).trans (F0.int (by omega))).trans (b4 j hj)⟩
    · have hie : i = acc.length := by
        have : i < (acc ++ [(rule, dC M v, deep, noF)]).length := by
          apply Nat.lt_of_not_le
          intro q
          rw [List.getElem?_eq_none q] at hi
          cases hi
        rw [List.length_append] at this
        simp only [List.length_cons, List.length_nil] at this
        omega
      rw [hie, List.getElem?_append_right (Nat.le_refl _), Nat.sub_self] at hi
      cases hi
      have hiL : i = L := by omega
      subst hiL
      have o0 : ∀ a, (a = 68 ∨ a = 69 ∨ a = 70) → M1.2.2.1 a i = M0.2.2.1 a i := fun a ha => F1.int (by omega)
      refine ⟨?_, ⟨v, hv, ?_, d1 v⟩, ?_, fun j hj => g2 j (Nat.zero_le _) hj⟩
      · rw [o0 68 (by omega), hM0]; simp [up2_if]
      · rw [o0 69 (by omega), hM0]; simp [up2_if]
      · rw [o0 70 (by omega), hM0]; simp [up2_if]
theorem c_setFrom (hW : Wd M) {rule deep : Nat} {f : Fm} {g : Nat → Int32} (h : LnC M c (acc ++ [(rule, f, deep, g)])) {w : Nat} (hw : w < 3) (x : Int32) : ∃ M1, f_X4_setFrom n 67 (nI acc.length) (nI w) x M = some ((), M1) ∧ Fr S67 M M1 ∧ LnC M1 c (acc ++ [(rule, f, deep, fun j => if j = w then x else g j)]) := by
  have hl := h.2.1
  rw [List.length_append] at hl
  simp only [List.length_cons, List.length_nil] at hl
  obtain ⟨L, hL⟩ : ∃ L, L = acc.length := ⟨_, rfl⟩
  rw [← hL] at hl ⊢
  have ei : nI L * 3 + nI w = nI (L * 3 + w) := by rw [show (3 : Int32) = nI 3 from rfl, nI_mul, nI_add]
  have F : Fr (fun a k => a = 71 ∧ k = L * 3 + w) M (wI M 71 (L * 3 + w) x) := Fr.refl.wI ⟨rfl, rfl⟩ _
  have FS : Fr S67 M (wI M 71 (L * 3 + w) x) := F.mono (fun a k q => by unfold S67; omega)
  have d1 := dC_67 FS
  refine ⟨wI M 71 (L * 3 + w) x, ?_, FS, by rw [F.int (by omega), h.1, List.length_append, List.length_append]; rfl, by rw [List.length_append, ← hL]; simp; omega, fun i e hi => ?_⟩
  · show T_X4_setFrom_0 (fun v M => some (v, M)) none n 67 (nI L) (nI w) x M = _
    unfold T_X4_setFrom_0
    have hn0 : (nI L < (0 : Int32)) = False := nI_lt0 (by omega)
    have hw0 : (nI w < (0 : Int32)) = False := nI_lt0 (by omega)
    have hw3 : ((3 : Int32) ≤ nI w) = False := eq_false (by rw [show (3 : Int32) = nI 3 from rfl, nI_le_ (by omega) (by omega)]; omega)
    have e : aLen M 71 = some 1218 := by unfold aLen; rw [hW.1, if_pos (by omega), s_71 hW]; rfl
    have hle : (Int32.ofNat 1218 ≤ nI (L * 3 + w)) = False := eq_false (by rw [show Int32.ofNat 1218 = nI 1218 from rfl, nI_le_ (by omega) (by omega)]; omega)
    have fA : fA M 71 1 (nI (L * 3 + w)) := fA_C hW (by omega) (s_71 hW) (by omega) (by omega)
    simp (disch := omega) only [hn0, hw0, hw3, ↓reduceIte, ↓gd_pos (fO67 hW), ↓bnd_of (r_67_4 hW), ↓bnd_of e, ei, hle, ↓gd_pos fA, nI_z]
  · by_cases hil : i < acc.length
    · rw [List.getElem?_append_left hil] at hi
      obtain ⟨b1, ⟨u, u1, u2, u3⟩, b3, b4⟩ := h.2.2 i e (by rw [List.getElem?_append_left hil]; exact hi)
      exact ⟨(F.int (by omega)).trans b1, ⟨u, u1, (F.int (by omega)).trans u2, (d1 u).trans u3⟩, (F.int (by omega)).trans b3, fun j hj => (F.int (by omega)).trans (b4 j hj)⟩
    · have hie : i = acc.length := by
        have : i < (acc ++ [(rule, f, deep, fun j => if j = w then x else g j)]).length := by
          apply Nat.lt_of_not_le
          intro q
          rw [List.getElem?_eq_none q] at hi
          cases hi
        rw [List.length_append] at this
        simp only [List.length_cons, List.length_nil] at this
        omega
      rw [hie, List.getElem?_append_right (Nat.le_refl _), Nat.sub_self] at hi
      cases hi
      obtain ⟨b1, ⟨u, u1, u2, u3⟩, b3, b4⟩ := h.2.2 i (rule, f, deep, g) (by rw [hie, List.getElem?_append_right (Nat.le_refl _), Nat.sub_self]; rfl)
      have hiL : i = L := by omega
      subst hiL
      refine ⟨(F.int (by omega)).trans b1, ⟨u, u1, (F.int (by omega)).trans u2, (d1 u).trans u3⟩, (F.int (by omega)).trans b3, fun j hj => ?_⟩
      show _ = if j = w then x else g j
      by_cases e : j = w
      · subst e
        rw [if_pos rfl]
        simp [up2_if]
      · rw [if_neg e, F.int (by omega)]
        exact b4 j hj
/-- lines that agree -/
theorem LnC.last {rule deep : Nat} {f : Fm} {g g1 : Nat → Int32} (h : LnC M c (acc ++ [(rule, f, deep, g)])) (e : ∀ j, j < 3 → g j = g1 j) : LnC M c (acc ++ [(rule, f, deep, g1)]) := by
  refine ⟨by rw [h.1, List.length_append, List.length_append]; rfl, by have := h.2.1; rw [List.length_append] at this ⊢; exact this, fun i q hi => ?_⟩
  by_cases hil : i < acc.length
  · rw [List.getElem?_append_left hil] at hi
    exact h.2.2 i q (by rw [List.getElem?_append_left hil]; exact hi)
  · have hie : i = acc.length := by
      have : i < (acc ++ [(rule, f, deep, g1)]).length := by
        apply Nat.lt_of_not_le
        intro q
        rw [List.getElem?_eq_none q] at hi
        cases hi
      rw [List.length_append] at this
      simp only [List.length_cons, List.length_nil] at this
      omega
    rw [hie, List.getElem?_append_right (Nat.le_refl _), Nat.sub_self] at hi
    cases hi
    obtain ⟨b1, b2, b3, b4⟩ := h.2.2 i (rule, f, deep, g) (by rw [hie, List.getElem?_append_right (Nat.le_refl _), Nat.sub_self]; rfl)
    exact ⟨b1, b2, b3, fun j hj => (b4 j hj).trans (e j hj)⟩
end LNC
