/-! THE DECIDER in the class: saturate -/
def Inr (m : Nat) (w : Int64) : Prop := ∀ j, b64 w j = true → j < m
abbrev St (w : Int64) (j : Nat) : Prop := b64 w j = true
def SbS (a b : Int64) : Prop := ∀ j, b64 a j = true → b64 b j = true
/-- saturated at one part -/
def SatI (kd lf rt : Nat → Nat) (T : Nat → Prop) (i : Nat) : Prop := (kd i = 9 → (T (rt i) → T i) ∧ (T i → T (lf i) → T (rt i))) ∧ (kd i = 10 → (T i → T (lf i) ∧ T (rt i)) ∧ (T (lf i) → T (rt i) → T i)) ∧ (kd i = 11 → (T (lf i) ∨ T (rt i) → T i))
theorem bt_mem {a j : Nat} (ha : a < 40) : b64 (bt a) j = true ↔ a = j := by
  rw [b64_bt ha]
  exact decide_eq_true_iff
theorem cP_sub {S R : Nat → Prop} (h : ∀ v, S v → R v) : ∀ z, cP S z ≤ cP R z := by
  intro z
  induction z with
  | zero => exact Nat.le_refl _
  | succ z ih =>
    by_cases q : S z
    · rw [cP_y q, cP_y (h z q)]; omega
    · rw [cP_n q]
      by_cases r : R z
      · rw [cP_y r]; omega
      · rw [cP_n r]; exact ih
theorem cP_ssub {S R : Nat → Prop} (h : ∀ v, S v → R v) {v : Nat} (hR : R v) (hS : ¬ S v) : ∀ z, v < z → cP S z < cP R z := by
  intro z
  induction z with
  | zero => intro q; omega
  | succ z ih =>
    intro hv
    by_cases e : v = z
    · subst e
      rw [cP_n hS, cP_y hR]
      have := cP_sub h v
      omega
    · have i1 := ih (by omega)
      by_cases q : S z
      · rw [cP_y q, cP_y (h z q)]; omega
      · rw [cP_n q]
        by_cases r : R z
        · rw [cP_y r]; omega
        · rw [cP_n r]; exact i1
theorem cP_z {S : Nat → Prop} : ∀ z, cP S z ≤ z := by
  intro z
  induction z with
  | zero => exact Nat.le_refl _
  | succ z ih =>
    by_cases q : S z
    · rw [cP_y q]; omega
    · rw [cP_n q]; omega
theorem SbS.eq {a b : Int64} (h : SbS a b) (k : SbS b a) : a = b := b64_ext (fun j _ => by
  cases ha : b64 a j with
  | true => exact (h j ha).symm
  | false =>
    cases hb : b64 b j with
    | true => have := k j hb; rw [ha] at this; cases this
    | false => rfl)
theorem SbS.or {a b : Int64} : SbS a (a ||| b) := fun j h => by rw [b64_or, h, Bool.true_or]
theorem SbS.grow {a b : Int64} {m : Nat} (h : SbS a b) (hb : Inr m b) (hm : m ≤ 40) (hne : b ≠ a) : cP (St a) 40 < cP (St b) 40 := by
  have : ∃ v, St b v ∧ ¬ St a v := by
    apply Classical.byContradiction
    intro q
    exact hne (SbS.eq (fun j hj => Classical.byContradiction (fun r => q ⟨j, hj, r⟩)) h)
  obtain ⟨v, v1, v2⟩ := this
  exact cP_ssub h v1 v2 40 (by have := hb v v1; omega)
section SA3
variable {M M1 : Mem} {m n : Nat} {kd lf rt : Nat → Nat} {asked granted : Nat → Prop}
theorem ao_sound (hP : PtOk m kd lf rt asked granted) (h40 : m ≤ 40) {w : Int64} {i : Nat} (hi : i < m) (h9 : 9 ≤ kd i) {j : Nat} (hj : b64 (aoV (kd i) i (lf i) (rt i) (b64 w i) (b64 w (lf i)) (b64 w (rt i))) j = true) : j < m ∧ EnI m kd lf rt (St w) j := by
  have hlt := hP.2.1 i hi h9
  have h11 := hP.1 i hi
  unfold aoV at hj
  by_cases e9 : kd i = 9
  · rw [if_pos e9] at hj
    by_cases hC : b64 w (rt i) = true
    · rw [if_pos hC, bt_mem (by omega)] at hj
      subst hj
      exact ⟨hi, EnI.imp_k hP hi e9 (EnI.mem (by omega) hC)⟩
    · rw [if_neg hC] at hj
      by_cases hA : (b64 w i && b64 w (lf i)) = true
      · rw [if_pos hA, bt_mem (by omega)] at hj
        subst hj
        rw [Bool.and_eq_true] at hA
        exact ⟨by omega, EnI.imp_l hP hi e9 (EnI.mem hi hA.1) (EnI.mem (by omega) hA.2)⟩
      · rw [if_neg hA, b64_0] at hj
        cases hj
  · rw [if_neg e9] at hj
    by_cases e10 : kd i = 10
    · rw [if_pos e10] at hj
      by_cases hA : b64 w i = true
      · rw [if_pos hA, b64_or, Bool.or_eq_true, bt_mem (by omega), bt_mem (by omega)] at hj
        have := EnI.and_l hP hi e10 (EnI.mem (S := St w) hi hA)
        rcases hj with hj | hj
        · subst hj; exact ⟨by omega, this.1⟩
        · subst hj; exact ⟨by omega, this.2⟩
      · rw [if_neg hA] at hj
        by_cases hB : (b64 w (lf i) && b64 w (rt i)) = true
        · rw [if_pos hB, bt_mem (by omega)] at hj
          subst hj
          rw [Bool.and_eq_true] at hB
          exact ⟨hi, EnI.and_r hP hi e10 (EnI.mem (by omega) hB.1) (EnI.mem (by omega) hB.2)⟩
        · rw [if_neg hB, b64_0] at hj
          cases hj
    · rw [if_neg e10] at hj
      have e11 : kd i = 11 := by omega
      by_cases hB : (b64 w (lf i) || b64 w (rt i)) = true
      · rw [if_pos hB, bt_mem (by omega)] at hj
        subst hj
        rw [Bool.or_eq_true] at hB
        exact ⟨hi, EnI.or_r hP hi e11 (hB.imp (fun q => EnI.mem (by omega) q) (fun q => EnI.mem (by omega) q))⟩
      · rw [if_neg hB, b64_0] at hj
        cases hj
theorem ao_sat (hP : PtOk m kd lf rt asked granted) (h40 : m ≤ 40) {w : Int64} {i : Nat} (hi : i < m) (h9 : 9 ≤ kd i) (h : SbS (aoV (kd i) i (lf i) (rt i) (b64 w i) (b64 w (lf i)) (b64 w (rt i))) w) : SatI kd lf rt (St w) i := by
  have hlt := hP.2.1 i hi h9
  unfold aoV SbS at h
  refine ⟨fun e => ⟨fun hC => ?_, fun hA hB => ?_⟩, fun e => ⟨fun hA => ?_, fun hB hC => ?_⟩, fun e hBC => ?_⟩
  · rw [if_pos e, if_pos hC] at h
    exact h i ((bt_mem (by omega)).mpr rfl)
  · apply Classical.byContradiction
    intro hC
    rw [if_pos e, if_neg hC, if_pos (by rw [Bool.and_eq_true]; exact ⟨hA, hB⟩)] at h
    exact hC (h (rt i) ((bt_mem (by omega)).mpr rfl))
  · rw [if_neg (by omega), if_pos e, if_pos hA] at h
    exact ⟨h _ (by rw [b64_or, Bool.or_eq_true, bt_mem (by omega)]; exact Or.inl rfl), h _ (by rw [b64_or, Bool.or_eq_true]; exact Or.inr ((bt_mem (by omega)).mpr rfl))⟩
  · apply Classical.byContradiction
    intro hA
    rw [if_neg (by omega), if_pos e, if_neg hA, if_pos (by rw [Bool.and_eq_true]; exact ⟨hB, hC⟩)] at h
    exact hA (h i ((bt_mem (by omega)).mpr rfl))
  · rw [if_neg (by omega), if_neg (by omega), if_pos (by rw [Bool.or_eq_true]; exact hBC)] at h
    exact h i ((bt_mem (by omega)).mpr rfl)
/-- a set and a larger one that follows from it -/
def Fol (m : Nat) (kd lf rt : Nat → Nat) (w v : Int64) : Prop := SbS w v ∧ Inr m v ∧ ∀ j, j < m → St v j → EnI m kd lf rt (St w) j
theorem Fol.refl {w : Int64} (h : Inr m w) : Fol m kd lf rt w w := ⟨fun _ q => q, h, fun _ hj q => EnI.mem hj q⟩
theorem Fol.trans {a b c : Int64} (h : Fol m kd lf rt a b) (k : Fol m kd lf rt b c) : Fol m kd lf rt a c := ⟨fun j q => k.1 j (h.1 j q), k.2.1, fun j hj q => EnI.cut (fun i hi r => h.2.2 i hi r) (k.2.2 j hj q)⟩
set_option maxHeartbeats 1000000 in
theorem sa_18 (hW : Wd M) (hD : DcP M m kd lf rt) (hP : PtOk m kd lf rt asked granted) (x : Nat) (w0 : Int64) : ∀ z i, i + z = m → ∀ w, Inr m w → ∃ w', lp (st_X0_saturate (n + 1)) (18, [.ref 80, .long w, .int (nI x), .long w0, .int (nI i)], M) = (if w' = w0 then some (w', M) else lp (st_X0_saturate (n + 1)) (5, [.ref 80, .long w', .int (nI (x + 1))], M)) ∧ Fol m kd lf rt w w' ∧ (w' = w → ∀ i', i ≤ i' → i' < m → SatI kd lf rt (St w) i') := by
  have h40 := hD.2.1
  intro z
  induction z with
  | zero =>
    intro i hi w hI
    refine ⟨w, ?_, Fol.refl hI, fun _ i' h1 h2 => by omega⟩
    refine (ge_X0_saturate_18 (n + 1) 80 w (nI x) w0 (nI i) M).trans ?_
    unfold T_X0_saturate_18
    have hle : (nI m ≤ nI i) = True := eq_true (by rw [nI_le_ (by omega) (by omega)]; omega)
    have hq : (lg_cmp w w0 = 0) = (w = w0) := propext (lg_cmp0 _ _)
    simp only [↓gd_pos (fO80 hW), hD.1, hle, ↓reduceIte, hq, nI_1]
  | succ z ih =>
    intro i hi w hI
    have k1 := (hD.2.2.1 i (by omega)).1
    have h11 := hP.1 i (by omega)
    have hle : (nI m ≤ nI i) = False := eq_false (by rw [nI_le_ (by omega) (by omega)]; omega)
    have f81 := fA81 hW (show i < 40 by omega)
    by_cases h9 : 9 ≤ kd i
    · have hlt := hP.2.1 i (by omega) h9
      have y0 := c_atOnce (n := n) hW hD (show i < m by omega) h9 h11 hlt.1 hlt.2 w
      have so := fun j => ao_sound (w := w) (j := j) hP h40 (show i < m by omega) h9
      have sat := ao_sat (w := w) hP h40 (show i < m by omega) h9
      obtain ⟨v, hv⟩ : ∃ v, v = aoV (kd i) i (lf i) (rt i) (b64 w i) (b64 w (lf i)) (b64 w (rt i)) := ⟨_, rfl⟩
      rw [← hv] at y0 so sat
      have F1 : Fol m kd lf rt w (w ||| v) := ⟨SbS.or, fun j q => by
        rw [b64_or, Bool.or_eq_true] at q
        exact q.elim (hI j) (fun r => (so j r).1), fun j hj q => by
        have q : b64 (w ||| v) j = true := q
        rw [b64_or, Bool.or_eq_true] at q
        exact q.elim (fun r => EnI.mem hj r) (fun r => (so j r).2)⟩
      obtain ⟨w', y, F2, S2⟩ := ih (i + 1) (by omega) (w ||| v) F1.2.1
      refine ⟨w', ?_, F1.trans F2, fun e i' h1 h2 => ?_⟩
      · rw [← y]
        refine (ge_X0_saturate_18 (n + 1) 80 w (nI x) w0 (nI i) M).trans ?_
        unfold T_X0_saturate_18
        have hk : (nI (kd i) < (9 : Int32)) = False := eq_false (by rw [show (9 : Int32) = nI 9 from rfl, nI_lt_ (by omega) (by omega)]; omega)
        simp (disch := omega) only [↓gd_pos (fO80 hW), hD.1, hle, ↓reduceIte, ↓bnd_of (r_80_1 hW), ↓gd_pos f81, nI_z, k1, hk, ↓bnd2_of (show cal (n + 1) (fun zz => f_X0_atOnce zz 80 w (nI i) M) = _ from y0), nI_1]
      · have e2 : w ||| v = w := SbS.eq (fun j q => by rw [← e]; exact F2.1 j q) SbS.or
        by_cases ei : i' = i
        · subst ei
          exact sat (fun j q => by rw [← e2, b64_or, q, Bool.or_true])
        · have := S2 (by rw [e2]; exact e) i' (by omega) h2
          rw [e2] at this
          exact this
    · obtain ⟨w', y, F2, S2⟩ := ih (i + 1) (by omega) w hI
      refine ⟨w', ?_, F2, fun e i' h1 h2 => ?_⟩
      · rw [← y]
        refine (ge_X0_saturate_18 (n + 1) 80 w (nI x) w0 (nI i) M).trans ?_
        unfold T_X0_saturate_18
        have hk : (nI (kd i) < (9 : Int32)) = True := eq_true (by rw [show (9 : Int32) = nI 9 from rfl, nI_lt_ (by omega) (by omega)]; omega)
        simp (disch := omega) only [↓gd_pos (fO80 hW), hD.1, hle, ↓reduceIte, ↓bnd_of (r_80_1 hW), ↓gd_pos f81, nI_z, k1, hk, nI_1]
      · by_cases ei : i' = i
        · subst ei
          exact ⟨fun q => by omega, fun q => by omega, fun q => by omega⟩
        · exact S2 e i' (by omega) h2
theorem sa_5 (hW : Wd M) (hD : DcP M m kd lf rt) (hP : PtOk m kd lf rt asked granted) : ∀ z x, x + z = 41 → ∀ w, Inr m w → x ≤ cP (St w) 40 → ∃ w', lp (st_X0_saturate (n + 1)) (5, [.ref 80, .long w, .int (nI x)], M) = some (w', M) ∧ Fol m kd lf rt w w' ∧ Sat m kd lf rt (St w') := by
  have h40 := hD.2.1
  intro z
  induction z with
  | zero =>
    intro x hx w hI hc
    have := cP_z (S := St w) 40
    omega
  | succ z ih =>
    intro x hx w hI hc
    obtain ⟨w1, y1, F1, S1⟩ := sa_18 (n := n) hW hD hP x w m 0 (by omega) w hI
    have ey : lp (st_X0_saturate (n + 1)) (5, [.ref 80, .long w, .int (nI x)], M) = lp (st_X0_saturate (n + 1)) (18, [.ref 80, .long w, .int (nI x), .long w, .int (nI 0)], M) := by
      refine (ge_X0_saturate_5 (n + 1) 80 w (nI x) M).trans ?_
      unfold T_X0_saturate_5
      have h : ((40 : Int32) < nI x) = False := eq_false (by rw [show (40 : Int32) = nI 40 from rfl, nI_lt_ (by omega) (by omega)]; omega)
      simp only [h, ↓reduceIte]
      rfl
    by_cases e : w1 = w
    · rw [if_pos e] at y1
      refine ⟨w1, ey.trans y1, F1, fun i hi => ?_⟩
      rw [e]
      exact S1 e i (by omega) hi
    · rw [if_neg e] at y1
      have := F1.1.grow F1.2.1 h40 e
      obtain ⟨w2, y2, F2, S2⟩ := ih (x + 1) (by omega) w1 F1.2.1 (by omega)
      exact ⟨w2, ey.trans (y1.trans y2), F1.trans F2, S2⟩
theorem c_saturate (hW : Wd M) (hD : DcP M m kd lf rt) (hP : PtOk m kd lf rt asked granted) {w : Int64} (hI : Inr m w) (n : Nat) : ∃ w', f_X0_saturate (n + 1) 80 w M = some (w', M) ∧ Fol m kd lf rt w w' ∧ Sat m kd lf rt (St w') := by
  obtain ⟨w', y, F, S⟩ := sa_5 (n := n) hW hD hP 41 0 (by omega) w hI (by omega)
  exact ⟨w', (ge_X0_saturate_0 (n + 1) 80 w M).trans y, F, S⟩
end SA3
