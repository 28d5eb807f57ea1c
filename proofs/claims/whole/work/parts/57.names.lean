/-! NAMES -/
def nmc (f : Nat → Nat) (c : Nat) : Nat := pkb f c * 256 ^ (4 - c)
def ltsOk (f : Nat → Nat) (c : Nat) : Prop := 1 ≤ c ∧ c ≤ 4 ∧ ∀ i, i < c → isLt (f i)
/-- the digits of a name, four of them -/
def pad (f : Nat → Nat) (c : Nat) (i : Nat) : Nat := if i < c then f i else 0
theorem nmc_pad {f : Nat → Nat} {c : Nat} (hc : c ≤ 4) : nmc f c = pkb (pad f c) 4 := by
  unfold nmc
  have e : ∀ j, j ≤ c → pkb (pad f c) j = pkb f j := fun j hj => pkb_congr (fun i hi => by unfold pad; rw [if_pos (by omega)])
  have z : ∀ d, pkb (pad f c) (c + d) = pkb f c * 256 ^ d := by
    intro d
    induction d with
    | zero => rw [Nat.add_zero, e c (Nat.le_refl _), Nat.pow_zero, Nat.mul_one]
    | succ d ih =>
      show pkb (pad f c) (c + d) * 256 + pad f c (c + d) = _
      rw [ih, Nat.pow_succ]
      unfold pad
      rw [if_neg (by omega), Nat.add_zero, Nat.mul_assoc]
  have := z (4 - c)
  rw [show c + (4 - c) = 4 by omega] at this
  exact this.symm
theorem pkb4 (g : Nat → Nat) : pkb g 4 = ((g 0 * 256 + g 1) * 256 + g 2) * 256 + g 3 := by
  show (((0 * 256 + g 0) * 256 + g 1) * 256 + g 2) * 256 + g 3 = _
  omega
theorem nmc_lt {f : Nat → Nat} {c : Nat} (h : ltsOk f c) : nmc f c < 2147483648 ∧ 0 < nmc f c ∧ nmc f c / 16777216 = f 0 := by
  rw [nmc_pad h.2.1, pkb4]
  have h0 := h.2.2 0 (by have := h.1; omega)
  have hp : ∀ i, pad f c i < 256 := fun i => by
    unfold pad
    by_cases q : i < c
    · rw [if_pos q]
      have := h.2.2 i q
      unfold isLt at this
      omega
    · rw [if_neg q]
      omega
  have e0 : pad f c 0 = f 0 := if_pos (by have := h.1; omega)
  rw [e0]
  have := hp 1
  have := hp 2
  have := hp 3
  unfold isLt at h0
  omega
theorem nmc_inj {f g : Nat → Nat} {c d : Nat} (hf : ltsOk f c) (hg : ltsOk g d) : nmc f c = nmc g d ↔ c = d ∧ ∀ i, i < c → f i = g i := by
  constructor
  · intro h
    rw [nmc_pad hf.2.1, nmc_pad hg.2.1, pkb4, pkb4] at h
    have hp : ∀ i, pad f c i < 256 := fun i => by
      unfold pad
      by_cases q : i < c
      · rw [if_pos q]
        have := hf.2.2 i q
        unfold isLt at this
        omega
      · rw [if_neg q]
        omega
    have hq : ∀ i, pad g d i < 256 := fun i => by
      unfold pad
      by_cases q : i < d
      · rw [if_pos q]
        have := hg.2.2 i q
        unfold isLt at this
        omega
      · rw [if_neg q]
        omega
    have a1 := hp 1
    have a2 := hp 2
    have a3 := hp 3
    have b1 := hq 1
    have b2 := hq 2
    have b3 := hq 3
    have e : ∀ i, i < 4 → pad f c i = pad g d i := by
      intro i hi
      have h4 : i = 0 ∨ i = 1 ∨ i = 2 ∨ i = 3 := by omega
      rcases h4 with rfl | rfl | rfl | rfl <;> omega
    have key : ∀ i, i < 4 → (i < c ↔ i < d) ∧ (i < c → f i = g i) := by
      intro i hi
      have hh := e i hi
      unfold pad at hh
      by_cases q : i < c
      · rw [if_pos q] at hh
        have l1 := hf.2.2 i q
        unfold isLt at l1
        by_cases r : i < d
        · rw [if_pos r] at hh
          exact ⟨⟨fun _ => r, fun _ => q⟩, fun _ => hh⟩
        · rw [if_neg r] at hh
          omega
      · rw [if_neg q] at hh
        by_cases r : i < d
        · rw [if_pos r] at hh
          have l1 := hg.2.2 i r
          unfold isLt at l1
          omega
        · exact ⟨⟨fun x => (q x).elim, fun x => (r x).elim⟩, fun x => (q x).elim⟩
    have hcd : c = d := by
      have k0 := hf.2.1
      have k1 := hg.2.1
      apply Nat.le_antisymm
      · apply Nat.le_of_not_lt
        intro q
        have := (key d (by omega)).1
        omega
      · apply Nat.le_of_not_lt
        intro q
        have := (key c (by omega)).1
        omega
    exact ⟨hcd, fun i hi => (key i (by have := hf.2.1; omega)).2 hi⟩
  · rintro ⟨rfl, h⟩
    unfold nmc
    rw [pkb_congr h]
/-- a name stands at p -/
def isN (b : Nat → Nat) (n p : Nat) : Prop := tq b n p < te b n p ∧ te b n p - tq b n p ≤ 4 ∧ (tw b n p = 99 ∨ tw b n p ≤ 7)
noncomputable abbrev nmAt (b : Nat → Nat) (n p : Nat) : Nat := nmc (fun i => b (tq b n p + i)) (te b n p - tq b n p)
theorem isN.ok {b : Nat → Nat} {n p : Nat} (h : isN b n p) : ltsOk (fun i => b (tq b n p + i)) (te b n p - tq b n p) := by
  have ls := lts_is b (n - tq b n p) (tq b n p)
  refine ⟨by have := h.1; omega, h.2.1, fun i hi => ls.2.2.2 (tq b n p + i) (by omega) (by show _ < te b n p; omega)⟩
/-- what advance leaves -/
def TkC (M : Mem) (b : Nat → Nat) (n p : Nat) : Prop := M.2.2.1 14 12 = nI (tq b n p) ∧ M.2.2.1 14 11 = nI (nxt b n p) ∧ M.2.2.1 14 13 = cod b n p ∧ M.2.2.2.1 14 14 = lN (pkd b n p)
section NM
variable {M : Mem} {b : Nat → Nat} {n : Nat}
theorem nxt_le (b : Nat → Nat) (n p : Nat) (hp : p ≤ n) : tq b n p ≤ nxt b n p ∧ nxt b n p ≤ n := by
  have hle := tq_le b n p hp
  unfold nxt
  split
  · omega
  · split <;> omega
theorem c_wordLetters (hW : Wd M) (k : Nat) {p : Nat} (hk : TkC M b n p) (hp : p ≤ n) (hn : n ≤ 600) : f_X6_wordLetters k 14 M = some (nI (nxt b n p - tq b n p), M) := by
  have hle := nxt_le b n p hp
  unfold f_X6_wordLetters b_X6_wordLetters
  have := nI_sb (q := tq b n p) (t := nxt b n p - tq b n p) (by omega)
  rw [show tq b n p + (nxt b n p - tq b n p) = nxt b n p by omega] at this
  simp only [T_X6_wordLetters_0, W_14 hW, gd_true, fO, Nat.reduceLT, and_self, hk.1, hk.2.1, this]
theorem cod_neg (b : Nat → Nat) (n p : Nat) (hp : p ≤ n) : (tq b n p < te b n p ∧ cod b n p = (if tw b n p = 99 then -1 else nI (tw b n p)) ∧ nxt b n p = te b n p ∧ (tw b n p = 99 ∨ tw b n p < 22)) ∨ (te b n p = tq b n p ∧ (cod b n p = -3 ∨ cod b n p = -2) ∧ tw b n p = 99) := by
  have hle := tq_le b n p hp
  by_cases h : te b n p = tq b n p
  · right
    have h99 : tw b n p = 99 := by
      rcases tw_is b n p hp with ⟨t1, t2, t3, t4, t5, t6⟩ | ⟨t1, -⟩
      · omega
      · exact t1
    refine ⟨h, ?_, h99⟩
    unfold cod
    by_cases q : tq b n p = n
    · rw [if_pos q]
      exact Or.inl rfl
    · rw [if_neg q, if_pos h]
      exact Or.inr rfl
  · left
    rcases tw_is b n p hp with ⟨t1, t2, t3, t4, t5, t6⟩ | ⟨t1, t2, t3⟩
    · exact ⟨t5, by rw [if_neg (by omega)]; exact t3, t4, Or.inr t1⟩
    · refine ⟨by omega, ?_, ?_, Or.inl t1⟩
      · rw [if_pos t1]
        unfold cod
        rw [if_neg (by omega), if_neg h]
        split
        · exact t2
        · rfl
      · unfold nxt
        rw [if_neg (by omega), if_neg h]
theorem c_atName (hW : Wd M) (k : Nat) {p : Nat} (hk : TkC M b n p) (hp : p ≤ n) (hn : n ≤ 600) : (isN b n p → f_X6_atName (k + 1) 14 M = some (1, M)) ∧ (¬ isN b n p → f_X6_atName (k + 1) 14 M = some (0, M)) := by
  have hle := tq_le b n p hp
  have ew := c_wordLetters hW k hk hp hn
  unfold f_X6_atName b_X6_atName
  rcases cod_neg b n p hp with ⟨h1, h2, h3, h4⟩ | ⟨h1, h2, h3⟩
  · have hlt : ((cod b n p) < -1) = False := by
      rw [h2]
      split
      · exact eq_false (by decide)
      · exact eq_false (fun q => by
          have : (nI (tw b n p)).toInt < (-1 : Int32).toInt := Int32.lt_iff_toInt_lt.mp q
          rw [nI_toInt (by omega)] at this
          have e : (-1 : Int32).toInt = -1 := rfl
          omega)
    have hgt : (7 < cod b n p) = (tw b n p ≠ 99 ∧ 7 < tw b n p) := by
      rw [h2]
      by_cases q : tw b n p = 99
      · rw [if_pos q]
        exact propext ⟨fun x => absurd x (by decide), fun x => (x.1 q).elim⟩
      · rw [if_neg q]
        exact propext ⟨fun x => ⟨q, (nI_ltI (a := 7) (by omega) (by omega)).mp x⟩, fun x => (nI_ltI (a := 7) (by omega) (by omega)).mpr x.2⟩
    rw [h3] at ew
    simp (disch := omega) only [T_X6_atName_0, W_14 hW, gd_true, fO, fA, ex_in, bnd_s, bnd2_s, cal_s, Nat.reduceLT, true_and, and_true, and_self, nI_z, vp_iff, up2_if, Nat.reduceEqDiff, false_and, and_false, if_false, if_true, nI_1, nI_le_, nI_lt_, nI_lt0, nI_eq_, nI_add, hk.2.2.1, hlt, hgt, ew, show (4 : Int32) = nI 4 from rfl]
    constructor
    · intro h
      rw [if_neg (by have := h.2.2; omega), if_neg (by have := h.2.1; omega)]
    · intro h
      by_cases q : tw b n p ≠ 99 ∧ 7 < tw b n p
      · rw [if_pos q]
      · rw [if_neg q]
        have : ¬ te b n p - tq b n p ≤ 4 := fun x => h ⟨h1, x, by omega⟩
        rw [if_pos (by omega)]
  · have hlt : ((cod b n p) < -1) = True := by
      rcases h2 with h | h <;> rw [h] <;> exact eq_true (by decide)
    refine ⟨fun h => ?_, fun _ => ?_⟩
    · have := h.1
      omega
    · simp only [T_X6_atName_0, W_14 hW, gd_true, fO, fA, ex_in, bnd_s, bnd2_s, cal_s, Nat.reduceLT, true_and, and_true, and_self, nI_z, vp_iff, up2_if, Nat.reduceEqDiff, false_and, and_false, if_false, if_true, nI_1, nI_le_, nI_lt_, nI_lt0, nI_eq_, nI_add, hk.2.2.1, hlt]
theorem sh4 : ∀ c, c < 5 → 1 ≤ c → (8 * (4 - (if nI c < 4 then nI c else 4)) : Int32) = nI (8 * (4 - c)) := by decide +kernel
theorem c_nameRead (hW : Wd M) (k : Nat) {p : Nat} (hk : TkC M b n p) (hp : p ≤ n) (hn : n ≤ 600) (h : isN b n p) : f_X6_nameRead (k + 1) 14 M = some (nI (nmAt b n p), M) := by
  have ew := c_wordLetters hW k hk hp hn
  have hle := tq_le b n p hp
  have hnx : nxt b n p = te b n p := by
    rcases cod_neg b n p hp with ⟨-, -, h3, -⟩ | ⟨h1, -⟩
    · exact h3
    · have := h.1
      omega
  rw [hnx] at ew
  have h4 := h.2.1
  have h1 := h.1
  have hpk : pkd b n p = pkb (fun i => b (tq b n p + i)) (te b n p - tq b n p) := by
    unfold pkd
    rw [if_neg (by omega), if_neg (by omega), Nat.min_eq_right (by omega)]
  have es := sh4 (te b n p - tq b n p) (by omega) (by omega)
  have hsl := wb_shl (pkb (fun i => b (tq b n p + i)) (te b n p - tq b n p)) (k := 8 * (4 - (te b n p - tq b n p))) (by omega)
  unfold f_X6_nameRead b_X6_nameRead
  simp only [T_X6_nameRead_0, W_14 hW, gd_true, fO, Nat.reduceLT, and_self, cal_s, ew, bnd2_s, hk.2.2.2, hpk, es, hsl, lN_i, show (1 ≤ k + 1) = True from eq_true (by omega)]
  unfold nmAt nmc
  rw [Nat.pow_mul]
theorem c_letter0 (k : Nat) {f : Nat → Nat} {c : Nat} (h : ltsOk f c) : f_X10_nameLetter k (nI (nmc f c)) 0 M = some (nI (f 0), M) := by
  have hl := nmc_lt h
  have h0 := h.2.2 0 (by have := h.1; omega)
  unfold isLt at h0
  have e : iushr (nI (nmc f c)) 24 = nI (f 0) := by
    have := pk_ushrN (n := nmc f c) (by omega) 24 24 (by decide)
    rw [show (2 : Nat) ^ 24 = 16777216 from rfl, hl.2.2] at this
    exact this
  have e2 : nI (f 0) &&& 255 = nI (f 0) := nI_255 (f 0) (by omega)
  unfold f_X10_nameLetter b_X10_nameLetter
  have e3 : (24 - (8 * (0 : Int32))) = 24 := by decide
  have e4 : (nI (f 0) = 0) = False := eq_false (nI_ne0 (by omega) (by omega))
  simp only [T_X10_nameLetter_0, show ((0 : Int32) < 0) = False from eq_false (by decide), show ((0 : Int32) ≤ 3) = True from eq_true (by decide), if_false, if_true, e3, e, e2, e4]
end NM
