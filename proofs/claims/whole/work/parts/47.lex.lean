/-! WORDS OF A TEXT: blanks, letters, codes; the class's way -/
def skp (b : Nat → Nat) : Nat → Nat → Nat
  | 0, p => p
  | k + 1, p => if b p = 32 then skp b k (p + 1) else p
def isLt (x : Nat) : Prop := 97 ≤ x ∧ x ≤ 122
noncomputable def lts (b : Nat → Nat) : Nat → Nat → Nat
  | 0, p => p
  | k + 1, p => @ite Nat (isLt (b p)) (Classical.propDecidable _) (lts b k (p + 1)) p
/-- where the next word or sign begins, where its letters end -/
abbrev tq (b : Nat → Nat) (n p : Nat) : Nat := skp b (n - p) p
noncomputable abbrev te (b : Nat → Nat) (n p : Nat) : Nat := lts b (n - tq b n p) (tq b n p)
theorem skp_is (b : Nat → Nat) : ∀ k p, p ≤ skp b k p ∧ skp b k p ≤ p + k ∧ (skp b k p < p + k → b (skp b k p) ≠ 32) := by
  intro k
  induction k with
  | zero => intro p; exact ⟨Nat.le_refl _, Nat.le_refl _, fun h => by unfold skp at h; omega⟩
  | succ k ih =>
    intro p
    unfold skp
    by_cases h : b p = 32
    · rw [if_pos h]
      have := ih (p + 1)
      exact ⟨by omega, by omega, fun q => this.2.2 (by omega)⟩
    · rw [if_neg h]
      exact ⟨Nat.le_refl _, by omega, fun _ => h⟩
theorem lts_is (b : Nat → Nat) : ∀ k p, p ≤ lts b k p ∧ lts b k p ≤ p + k ∧ (lts b k p < p + k → ¬ isLt (b (lts b k p))) ∧ ∀ i, p ≤ i → i < lts b k p → isLt (b i) := by
  intro k
  induction k with
  | zero => intro p; exact ⟨Nat.le_refl _, Nat.le_refl _, fun h => by unfold lts at h; omega, fun i h1 h2 => by unfold lts at h2; omega⟩
  | succ k ih =>
    intro p
    unfold lts
    by_cases h : isLt (b p)
    · rw [if_pos h]
      have := ih (p + 1)
      exact ⟨by omega, by omega, fun q => this.2.2.1 (by omega), fun i h1 h2 => by
        by_cases e : i = p
        · rw [e]; exact h
        · exact this.2.2.2 i (by omega) h2⟩
    · rw [if_neg h]
      exact ⟨Nat.le_refl _, by omega, fun _ => h, fun i h1 h2 => by omega⟩
def pkb (f : Nat → Nat) : Nat → Nat
  | 0 => 0
  | k + 1 => pkb f k * 256 + f k
theorem pkb_lt {f : Nat → Nat} : ∀ {k : Nat}, (∀ i, i < k → f i < 256) → pkb f k < 256 ^ k := by
  intro k
  induction k with
  | zero => intro _; exact Nat.one_pos
  | succ k ih =>
    intro h
    have h1 := ih (fun i hi => h i (by omega))
    have h2 := h k (by omega)
    rw [Nat.pow_succ]
    unfold pkb
    omega
theorem pkb_inj {f g : Nat → Nat} : ∀ {k j : Nat}, (∀ i, i < k → 0 < f i ∧ f i < 256) → (∀ i, i < j → 0 < g i ∧ g i < 256) → (pkb f k = pkb g j ↔ k = j ∧ ∀ i, i < k → f i = g i) := by
  intro k
  induction k with
  | zero =>
    intro j hf hg
    cases j with
    | zero => exact ⟨fun _ => ⟨rfl, fun i hi => by omega⟩, fun _ => rfl⟩
    | succ j =>
      have := hg j (by omega)
      constructor
      · intro h
        unfold pkb at h
        omega
      · intro h
        omega
  | succ k ih =>
    intro j hf hg
    have f1 := hf k (by omega)
    cases j with
    | zero =>
      constructor
      · intro h
        unfold pkb at h
        omega
      · intro h
        omega
    | succ j =>
      have g1 := hg j (by omega)
      have := ih (j := j) (fun i hi => hf i (by omega)) (fun i hi => hg i (by omega))
      constructor
      · intro h
        unfold pkb at h
        have a : pkb f k = pkb g j := by omega
        have b : f k = g j := by omega
        obtain ⟨x, y⟩ := this.mp a
        subst x
        refine ⟨rfl, fun i hi => ?_⟩
        by_cases e : i = k
        · rw [e]; exact b
        · exact y i (by omega)
      · rintro ⟨h, y⟩
        have e : k = j := by omega
        subst e
        unfold pkb
        rw [this.mpr ⟨rfl, fun i hi => y i (by omega)⟩, y k (by omega)]
theorem pkb_congr {f g : Nat → Nat} : ∀ {k : Nat}, (∀ i, i < k → f i = g i) → pkb f k = pkb g k := by
  intro k
  induction k with
  | zero => intro _; rfl
  | succ k ih =>
    intro h
    unfold pkb
    rw [ih (fun i hi => h i (by omega)), h k (by omega)]
/-- the words: how long, their letters -/
def wlen (w : Nat) : Nat := (wlF w).toNatClampNeg
def wch (w i : Nat) : Nat := (tch 0 (w * 5 + i)).toNatClampNeg
theorem wch_is : ∀ w, w < 22 → (0 < wlen w ∧ wlen w ≤ 5 ∧ wlF w = nI (wlen w)) ∧ ∀ i, i < wlen w → isLt (wch w i) ∧ tch 0 (w * 5 + i) = nI (wch w i) := by
  have h := (show ∀ w, w < 22 → (0 < wlen w ∧ wlen w ≤ 5 ∧ wlF w = nI (wlen w)) ∧ ∀ i, i < 5 → i < wlen w → (97 ≤ wch w i ∧ wch w i ≤ 122) ∧ tch 0 (w * 5 + i) = nI (wch w i) by decide +kernel)
  intro w hw
  obtain ⟨h1, h2⟩ := h w hw
  exact ⟨h1, fun i hi => h2 i (by omega) hi⟩
/-- c letters from q on are word w -/
def isW (b : Nat → Nat) (q c w : Nat) : Prop := c = wlen w ∧ ∀ i, i < c → b (q + i) = wch w i
noncomputable def wfd (P : Nat → Prop) : Nat → Nat → Int32
  | 0, _ => -1
  | k + 1, w => @ite Int32 (P w) (Classical.propDecidable _) (nI w) (wfd P k (w + 1))
noncomputable def wcd (b : Nat → Nat) (q c : Nat) : Int32 := wfd (isW b q c) 22 0
theorem wfd_is {P : Nat → Prop} : ∀ k w, (wfd P k w = -1 ∧ ∀ i, w ≤ i → i < w + k → ¬ P i) ∨ ∃ i, w ≤ i ∧ i < w + k ∧ P i ∧ wfd P k w = nI i ∧ ∀ j, w ≤ j → j < i → ¬ P j := by
  intro k
  induction k with
  | zero => intro w; exact Or.inl ⟨rfl, fun i h1 h2 => by omega⟩
  | succ k ih =>
    intro w
    unfold wfd
    by_cases h : P w
    · rw [if_pos h]
      exact Or.inr ⟨w, Nat.le_refl _, by omega, h, rfl, fun j h1 h2 => by omega⟩
    · rw [if_neg h]
      rcases ih (w + 1) with ⟨a, b⟩ | ⟨i, a, b, c, d, e⟩
      · refine Or.inl ⟨a, fun i h1 h2 => ?_⟩
        by_cases q : i = w
        · rw [q]; exact h
        · exact b i (by omega) (by omega)
      · refine Or.inr ⟨i, by omega, by omega, c, d, fun j h1 h2 => ?_⟩
        by_cases q : j = w
        · rw [q]; exact h
        · exact e j (by omega) h2
/-- the reader's text: bytes, end, where it stands; the packed words -/
def PwC (M : Mem) : Prop := ∀ w, w < 22 → M.2.2.2.1 15 w = lN (pkb (wch w) (wlen w))
def TxC (M : Mem) (b : Nat → Nat) (n : Nat) : Prop := M.2.2.1 14 10 = nI n ∧ n ≤ 600 ∧ PwC M ∧ ∀ i, i < n → b i < 256 ∧ M.2.2.1 1 i = nI (b i)
def SA (a k : Nat) : Prop := a = 14 ∧ (k = 11 ∨ k = 12 ∨ k = 13 ∨ k = 14)
theorem TxC.fr {M M1 : Mem} {b : Nat → Nat} {n : Nat} {S : Nat → Nat → Prop} (h : TxC M b n) (hf : Fr S M M1) (h1 : ¬ S 14 10) (h2 : ∀ k, ¬ S 1 k) (h3 : ∀ k, ¬ S 15 k) : TxC M1 b n := ⟨(hf.int h1).trans h.1, h.2.1, fun w hw => (hf.lng (h3 w)).trans (h.2.2.1 w hw), fun i hi => ⟨(h.2.2.2 i hi).1, (hf.int (h2 i)).trans (h.2.2.2 i hi).2⟩⟩
section LX
variable {M : Mem} {b : Nat → Nat} {n : Nat}
theorem c_isLetter (k : Nat) {x : Nat} (hx : x < 256) {M : Mem} : (isLt x → f_X6_isLetter k (nI x) M = some (1, M)) ∧ (¬ isLt x → f_X6_isLetter k (nI x) M = some (0, M)) := by
  unfold f_X6_isLetter b_X6_isLetter isLt
  simp (disch := omega) only [T_X6_isLetter_0, show (97 : Int32) = nI 97 from rfl, show (122 : Int32) = nI 122 from rfl, nI_lt_]
  constructor
  · intro h
    rw [if_neg (by omega), if_neg (by omega)]
  · intro h
    by_cases q : x < 97
    · rw [if_pos q]
    · rw [if_neg q, if_pos (by omega)]
theorem pkb_or {x y : Nat} (hy : y < 256) : (lN x <<< (Int32.toInt64 8 &&& 63)) ||| (Int32.toInt64 (nI y)) = lN (x * 256 + y) := by
  have h1 := wb_shl x (k := 8) (by omega)
  rw [show (Int32.toInt64 8 &&& 63) = ((nI 8).toInt64 &&& 63) from rfl, h1, nI_l (by omega), Nat.mul_comm, fb_or_sumL (k := 8) x (by omega)]
theorem lg_cmp0 (x y : Int64) : lg_cmp x y = 0 ↔ x = y := by
  unfold lg_cmp
  by_cases h : x = y
  · subst h
    simp
  · constructor
    · intro q
      split at q
      · exact absurd q (by decide)
      · simp [h] at q
    · intro q
      exact (h q).elim
set_option maxHeartbeats 2000000 in
theorem codeOf_loop (hW : Wd M) (hP : PwC M) (k : Nat) {q c : Nat} (hc : c ≤ 5) (hl : ∀ i, i < c → isLt (b (q + i))) : ∀ z w, w + z = 22 → lp (st_X6_codeOf k) (2, [.ref 14, .long (lN (pkb (fun i => b (q + i)) c)), .int (nI w)], M) = some (wfd (isW b q c) z w, M) := by
  intro z
  induction z with
  | zero =>
    intro w hw
    have : w = 22 := by omega
    subst this
    refine (ge_X6_codeOf_2 k 14 _ (nI 22) M).trans ?_
    simp (disch := omega) only [T_X6_codeOf_2, show (22 : Int32) = nI 22 from rfl, nI_le_, Nat.le_refl, if_true]
    rfl
  | succ z ih =>
    intro w hw
    have hw22 : w < 22 := by omega
    have hlen := (wch_is w hw22).1
    have hiff : (lN (pkb (wch w) (wlen w)) = lN (pkb (fun i => b (q + i)) c)) ↔ isW b q c w := by
      have b1 : pkb (wch w) (wlen w) < 2 ^ 63 := Nat.lt_of_lt_of_le (pkb_lt (k := wlen w) (fun i hi => by have := ((wch_is w hw22).2 i hi).1; unfold isLt at this; omega)) (Nat.le_trans (Nat.pow_le_pow_right (by omega) hlen.2.1) (by decide))
      have b2 : pkb (fun i => b (q + i)) c < 2 ^ 63 := Nat.lt_of_lt_of_le (pkb_lt (k := c) (fun i hi => by have := hl i hi; unfold isLt at this; omega)) (Nat.le_trans (Nat.pow_le_pow_right (by omega) hc) (by decide))
      rw [fb_lN_inj b1 b2, pkb_inj (fun i hi => by have := ((wch_is w hw22).2 i hi).1; unfold isLt at this; omega) (fun i hi => by have := hl i hi; unfold isLt at this; omega)]
      unfold isW
      constructor
      · rintro ⟨x, y⟩
        exact ⟨x.symm, fun i hi => (y i (by omega)).symm⟩
      · rintro ⟨x, y⟩
        exact ⟨x.symm, fun i hi => (y i (by omega)).symm⟩
    refine (ge_X6_codeOf_2 k 14 _ (nI w) M).trans ?_
    simp (disch := omega) only [T_X6_codeOf_2, W_14 hW, gd_true, fO, fA, ex_in, bnd_s, bnd2_s, cal_s, Nat.reduceLT, true_and, and_true, and_self, nI_z, vp_iff, up2_if, Nat.reduceEqDiff, false_and, and_false, if_false, if_true, nI_1, nI_le_, nI_lt_, nI_lt0, nI_eq_, nI_add, show (22 : Int32) = nI 22 from rfl, hP w hw22, hw22]
    rw [if_neg (by omega)]
    unfold wfd
    by_cases h : isW b q c w
    · rw [if_pos ((lg_cmp0 _ _).mpr (hiff.mpr h)), if_pos h]
    · rw [if_neg (fun x => h (hiff.mp ((lg_cmp0 _ _).mp x))), if_neg h]
      exact ih (w + 1) (by omega)
theorem c_codeOf (hW : Wd M) (hP : PwC M) (k : Nat) {q c : Nat} (hc : c ≤ 5) (hl : ∀ i, i < c → isLt (b (q + i))) : f_X6_codeOf k 14 (lN (pkb (fun i => b (q + i)) c)) M = some (wcd b q c, M) :=
  (ge_X6_codeOf_0 k 14 _ M).trans (codeOf_loop hW hP k hc hl 22 0 rfl)
end LX
