/-! THE DECIDER in the class: what matters, whole -/
def DcQ (M : Mem) (m g : Nat) (aw : Int64) : Prop := g < m ∧ M.2.2.2.1 80 8 = bt g ∧ M.2.2.2.1 80 10 = aw
theorem SbS.refl {a : Int64} : SbS a a := fun _ q => q
theorem SbS.trans {a b c : Int64} (h : SbS a b) (k : SbS b c) : SbS a c := fun j q => k j (h j q)
section MW5
variable {M M1 : Mem} {m n g : Nat} {kd lf rt : Nat → Nat} {asked granted : Nat → Prop} {aw : Int64}
set_option maxHeartbeats 1000000 in
theorem mt_67 (hW : Wd M) (hD : DcP M m kd lf rt) {i : Nat} (hi : i < m) (e9 : kd i = 9) (hl : lf i < i) (hr : rt i < i) (w v : Int64) : ∃ v', lp (st_X0_mattering n) (67, [.ref 80, .long w, .long v, .int (nI i)], M) = lp (st_X0_mattering n) (8, [.ref 80, .long w, .long v', .int (nI (i + 1))], M) ∧ SbS v v' ∧ (St w i → ¬ St w (rt i) → St v' (lf i)) := by
  have h40 := hD.2.1
  obtain ⟨k1, k2, -⟩ := hD.2.2.1 i hi
  obtain ⟨k3, k4⟩ := k2 (by omega)
  have f82 := fA82 hW (show i < 40 by omega)
  have f83 := fA83 hW (show i < 40 by omega)
  by_cases hA : b64 w i = true
  · have qA : (b64 w i = false) = False := eq_false (by rw [hA]; exact Bool.noConfusion)
    by_cases hC : b64 w (rt i) = false
    · have qC := eq_true hC
      refine ⟨v ||| bt (lf i), ?_, SbS.or, fun _ _ => ?_⟩
      · refine (ge_X0_mattering_67 n 80 w v (nI i) M).trans ?_
        unfold T_X0_mattering_67
        simp (disch := omega) only [cm_sh (show i < 64 by omega), qA, ↓reduceIte, ↓gd_pos (fO80 hW), ↓bnd_of (r_80_3 hW), ↓gd_pos f83, nI_z, k4, cm_bt (show rt i < 40 by omega), qC, ↓bnd_of (r_80_2 hW), ↓gd_pos f82, k3, nI_1]
      · show b64 (v ||| bt (lf i)) (lf i) = true
        rw [b64_or, (bt_mem (by omega)).mpr rfl, Bool.or_true]
    · have qC := eq_false hC
      refine ⟨v, ?_, SbS.refl, fun _ q => absurd (Bool.eq_false_iff.mpr q) hC⟩
      refine (ge_X0_mattering_67 n 80 w v (nI i) M).trans ?_
      unfold T_X0_mattering_67
      simp (disch := omega) only [cm_sh (show i < 64 by omega), qA, ↓reduceIte, ↓gd_pos (fO80 hW), ↓bnd_of (r_80_3 hW), ↓gd_pos f83, nI_z, k4, cm_bt (show rt i < 40 by omega), qC, nI_1]
  · have qA : (b64 w i = false) = True := eq_true (Bool.eq_false_iff.mpr hA)
    refine ⟨v, ?_, SbS.refl, fun q => absurd q hA⟩
    refine (ge_X0_mattering_67 n 80 w v (nI i) M).trans ?_
    unfold T_X0_mattering_67
    simp (disch := omega) only [cm_sh (show i < 64 by omega), qA, ↓reduceIte, nI_1]
set_option maxHeartbeats 1000000 in
theorem mt_8s (hW : Wd M) (hD : DcP M m kd lf rt) (hQ : DcQ M m g aw) {i : Nat} (hi : i < m) (h11 : kd i ≤ 11) (hlt : 9 ≤ kd i → lf i < i ∧ rt i < i) (w v : Int64) : ∃ v', lp (st_X0_mattering n) (8, [.ref 80, .long w, .long v, .int (nI i)], M) = lp (st_X0_mattering n) (8, [.ref 80, .long w, .long v', .int (nI (i + 1))], M) ∧ SbS v v' ∧ (kd i = 9 → (St aw i → St w (lf i) → St v' (rt i)) ∧ (St w i → ¬ St w (rt i) → St v' (lf i))) := by
  have h40 := hD.2.1
  obtain ⟨k1, k2, -⟩ := hD.2.2.1 i hi
  have hle : (nI m ≤ nI i) = False := eq_false (by rw [nI_le_ (by omega) (by omega)]; omega)
  have f81 := fA81 hW (show i < 40 by omega)
  have f82 := fA82 hW (show i < 40 by omega)
  have f83 := fA83 hW (show i < 40 by omega)
  by_cases e9 : kd i = 9
  · obtain ⟨k3, k4⟩ := k2 (by omega)
    obtain ⟨l1, l2⟩ := hlt (by omega)
    rw [e9] at k1
    have q9 : (nI 9 = (9 : Int32)) = True := eq_true rfl
    by_cases hA : b64 aw i = true
    · have qA : (b64 aw i = false) = False := eq_false (by rw [hA]; exact Bool.noConfusion)
      by_cases hB : b64 w (lf i) = false
      · have qB := eq_true hB
        obtain ⟨v', y, s1, s2⟩ := mt_67 (n := n) hW hD hi e9 l1 l2 w v
        refine ⟨v', ?_, s1, fun _ => ⟨fun _ q => ?_, s2⟩⟩
        · rw [← y]
          refine (ge_X0_mattering_8 n 80 w v (nI i) M).trans ?_
          unfold T_X0_mattering_8
          simp (disch := omega) only [↓gd_pos (fO80 hW), hD.1, hle, ↓reduceIte, ↓bnd_of (r_80_1 hW), ↓gd_pos f81, nI_z, k1, q9, hQ.2.2, cm_sh (show i < 64 by omega), qA, ↓bnd_of (r_80_2 hW), ↓gd_pos f82, k3, cm_bt (show lf i < 40 by omega), qB]
        · have q : b64 w (lf i) = true := q
          rw [hB] at q; cases q
      · have qB := eq_false hB
        obtain ⟨v', y, s1, s2⟩ := mt_67 (n := n) hW hD hi e9 l1 l2 w (v ||| bt (rt i))
        refine ⟨v', ?_, SbS.or.trans s1, fun _ => ⟨fun _ _ => s1 _ ?_, s2⟩⟩
        · rw [← y]
          refine (ge_X0_mattering_8 n 80 w v (nI i) M).trans ?_
          unfold T_X0_mattering_8
          simp (disch := omega) only [↓gd_pos (fO80 hW), hD.1, hle, ↓reduceIte, ↓bnd_of (r_80_1 hW), ↓gd_pos f81, nI_z, k1, q9, hQ.2.2, cm_sh (show i < 64 by omega), qA, ↓bnd_of (r_80_2 hW), ↓gd_pos f82, k3, cm_bt (show lf i < 40 by omega), qB, ↓bnd_of (r_80_3 hW), ↓gd_pos f83, k4]
        · rw [b64_or, (bt_mem (show rt i < 40 by omega)).mpr rfl, Bool.or_true]
    · have qA : (b64 aw i = false) = True := eq_true (Bool.eq_false_iff.mpr hA)
      obtain ⟨v', y, s1, s2⟩ := mt_67 (n := n) hW hD hi e9 l1 l2 w v
      refine ⟨v', ?_, s1, fun _ => ⟨fun q => absurd q hA, s2⟩⟩
      rw [← y]
      refine (ge_X0_mattering_8 n 80 w v (nI i) M).trans ?_
      unfold T_X0_mattering_8
      simp (disch := omega) only [↓gd_pos (fO80 hW), hD.1, hle, ↓reduceIte, ↓bnd_of (r_80_1 hW), ↓gd_pos f81, nI_z, k1, q9, hQ.2.2, cm_sh (show i < 64 by omega), qA]
  · refine ⟨v, ?_, SbS.refl, fun q => absurd q e9⟩
    refine (ge_X0_mattering_8 n 80 w v (nI i) M).trans ?_
    unfold T_X0_mattering_8
    have q9 : (nI (kd i) = (9 : Int32)) = False := eq_false (fun q => e9 ((nI_eq (by omega) (by omega)).mp q))
    simp (disch := omega) only [↓gd_pos (fO80 hW), hD.1, hle, ↓reduceIte, ↓bnd_of (r_80_1 hW), ↓gd_pos f81, nI_z, k1, q9, nI_1]
theorem mt_8 (hW : Wd M) (hD : DcP M m kd lf rt) (hQ : DcQ M m g aw) (hP : PtOk m kd lf rt asked granted) (w : Int64) : ∀ z i, i + z = m → ∀ v, St v g → (∀ i', i' < i → kd i' = 9 → (St aw i' → St w (lf i') → St v (rt i')) ∧ (St w i' → ¬ St w (rt i') → St v (lf i'))) → ∃ v', lp (st_X0_mattering n) (8, [.ref 80, .long w, .long v, .int (nI i)], M) = some (v', M) ∧ Mtg m kd lf rt g (St aw) (St w) (St v') := by
  have h40 := hD.2.1
  have hg := hQ.1
  intro z
  induction z with
  | zero =>
    intro i hi v hvg hv
    obtain ⟨v', y, s1, s2⟩ := mt_116 (n := n) hW hD hP.2.1 hP.1 m (by omega) v (fun i' h1 h2 => by omega)
    refine ⟨v', ?_, s1 g hvg, fun i' h1 h2 h3 h4 => s1 _ ((hv i' (by omega) h2).1 h3 h4), fun i' h1 h2 h3 h4 => s1 _ ((hv i' (by omega) h2).2 h3 h4), s2⟩
    rw [← y]
    refine (ge_X0_mattering_8 n 80 w v (nI i) M).trans ?_
    unfold T_X0_mattering_8
    have hle : (nI m ≤ nI i) = True := eq_true (by rw [nI_le_ (by omega) (by omega)]; omega)
    simp only [↓gd_pos (fO80 hW), hD.1, hle, ↓reduceIte, dnI_s (show 0 < m by omega) (show m < 1000 by omega)]
  | succ z ih =>
    intro i hi v hvg hv
    obtain ⟨v1, y1, s1, s2⟩ := mt_8s (n := n) hW hD hQ (show i < m by omega) (hP.1 i (by omega)) (hP.2.1 i (by omega)) w v
    obtain ⟨v', y, r⟩ := ih (i + 1) (by omega) v1 (s1 g hvg) (fun i' h1 h2 => by
      by_cases e : i' = i
      · subst e; exact s2 h2
      · have := hv i' (by omega) h2
        exact ⟨fun a b => s1 _ (this.1 a b), fun a b => s1 _ (this.2 a b)⟩)
    exact ⟨v', y1.trans y, r⟩
theorem c_mattering (hW : Wd M) (hD : DcP M m kd lf rt) (hQ : DcQ M m g aw) (hP : PtOk m kd lf rt asked granted) (w : Int64) (n : Nat) : ∃ v, f_X0_mattering n 80 w M = some (v, M) ∧ Mtg m kd lf rt g (St aw) (St w) (St v) := by
  have h40 := hD.2.1
  have hg := hQ.1
  obtain ⟨v, y, r⟩ := mt_8 (n := n) hW hD hQ hP w m 0 (by omega) (bt g) ((bt_mem (by omega)).mpr rfl) (fun i' q => by omega)
  refine ⟨v, ?_, r⟩
  refine (ge_X0_mattering_0 n 80 w M).trans ?_
  unfold T_X0_mattering_0
  simp only [↓gd_pos (fO80 hW), hQ.2.1]
  exact y
end MW5
