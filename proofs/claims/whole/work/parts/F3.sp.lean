/-! SPELLING: what the reference tells, byte by byte -/
def wrd (w : Nat) : List Nat := (List.range (wlen w)).map (wch w)
def spB (l : List Nat) : List Nat := if l = [] then [] else l ++ [32]
def gtN (l : List Nat) (q : Nat) : Int32 := match l[q]? with
  | some x => nI x
  | none => -1
/-- a formula, spelt -/
def fsp : Fm → List Nat
  | .arg k => wrd k
  | .add a b => wrd 9 ++ 32 :: (fsp a ++ 32 :: fsp b)
  | .mul a b => wrd 10 ++ 32 :: (fsp a ++ 32 :: fsp b)
  | .sub a b => wrd 11 ++ 32 :: (fsp a ++ 32 :: fsp b)
  | _ => []
theorem fsp_mk {j : Nat} (h1 : 9 ≤ j) (h2 : j ≤ 11) (a b : Fm) : fsp (mkF j a b) = wrd j ++ 32 :: (fsp a ++ 32 :: fsp b) := by
  have : j = 9 ∨ j = 10 ∨ j = 11 := by omega
  rcases this with rfl | rfl | rfl <;> rfl
theorem wrd_len (w : Nat) : (wrd w).length = wlen w := by simp [wrd]
theorem wrd_ne {w : Nat} (hw : w < 22) : wrd w ≠ [] := fun q => by
  have h1 := wrd_len w
  rw [q] at h1
  have h2 := (wch_is w hw).1.1
  simp at h1
  omega
theorem wlN_is : ∀ k, k < 12 → wlen k = wlN k := by decide +kernel
theorem blen_mw {j : Nat} (h1 : 9 ≤ j) (h2 : j ≤ 11) (a b : Fm) : blen (mkF j a b) = wlen j + 2 + blen a + blen b := by
  rw [wlN_is j (by omega)]
  have : j = 9 ∨ j = 10 ∨ j = 11 := by omega
  rcases this with rfl | rfl | rfl
  · show 5 + blen a + blen b = 3 + 2 + blen a + blen b; omega
  · show 5 + blen a + blen b = 3 + 2 + blen a + blen b; omega
  · show 4 + blen a + blen b = 2 + 2 + blen a + blen b; omega
theorem nI_inj32 {a b : Nat} (ha : a < 4294967296) (hb : b < 4294967296) (h : nI a = nI b) : a = b := by
  have e := congrArg (fun x => x.toBitVec.toNat) h
  have e1 : ∀ n : Nat, (nI n).toBitVec.toNat = n % 2 ^ 32 := fun n => by
    show (BitVec.ofNat 32 n).toNat = _
    rw [BitVec.toNat_ofNat]
  rw [e1, e1] at e
  omega
theorem nI_big {m : Nat} (h1 : 2147483648 ≤ m) (h2 : m < 4294967296) : nI m ≤ 0 := by
  have e : nI m = -(nI (4294967296 - m)) := by
    apply Int32.toBitVec_inj.mp
    show BitVec.ofNat 32 m = - BitVec.ofNat 32 (4294967296 - m)
    apply BitVec.eq_of_toNat_eq
    rw [BitVec.toNat_ofNat, BitVec.toNat_neg, BitVec.toNat_ofNat]
    omega
  by_cases q : m = 2147483648
  · rw [q]; decide
  · have h3 : (nI (4294967296 - m)).toInt = ((4294967296 - m : Nat) : Int) := nI_toInt (by omega)
    rw [Int32.le_iff_toInt_le, e, Int32.toInt_neg, h3]
    show ((-(((4294967296 - m : Nat)) : Int)).bmod (2 ^ 32)) ≤ 0
    rw [Int.bmod_eq_of_le (by omega) (by omega)]
    omega
def STq (a k : Nat) : Prop := a = 89 ∧ (k = 48 ∨ k = 50)
/-- how many bytes are told: blanks are left out once the counter is below zero -/
def tcn (l : List Nat) : Nat := if l.length ≤ 2147483648 then l.length else 2147483648 + ((l.drop 2147483648).filter (fun x => decide (x ≠ 32))).length
theorem tcn_s {l : List Nat} (h : l.length ≤ 2147483648) : tcn l = l.length := if_pos h
theorem tcn_b {l : List Nat} (h : 2147483648 ≤ l.length) : tcn l = 2147483648 + ((l.drop 2147483648).filter (fun x => decide (x ≠ 32))).length := by
  unfold tcn
  by_cases q : l.length ≤ 2147483648
  · rw [if_pos q, List.drop_of_length_le q]
    simp
    omega
  · rw [if_neg q]
theorem tcn_app (l s : List Nat) (h : 2147483648 ≤ l.length) : tcn (l ++ s) = tcn l + (s.filter (fun x => decide (x ≠ 32))).length := by
  rw [tcn_b h, tcn_b (by rw [List.length_append]; omega), List.drop_append_of_le_length h, List.filter_append, List.length_append]
  omega
theorem tcn_le (l : List Nat) : tcn l ≤ l.length := by
  by_cases q : l.length ≤ 2147483648
  · rw [tcn_s q]; exact Nat.le_refl _
  · rw [tcn_b (by omega)]
    have := List.length_filter_le (fun x => decide (x ≠ 32)) (l.drop 2147483648)
    rw [List.length_drop] at this
    omega
theorem tcn_1 (l : List Nat) (x : Nat) (h : x ≠ 32 ∨ l.length < 2147483648) : tcn (l ++ [x]) = tcn l + 1 := by
  by_cases q : l.length < 2147483648
  · rw [tcn_s (by simp; omega), tcn_s (by omega)]; simp
  · rw [tcn_app _ _ (by omega)]
    have hx : x ≠ 32 := by omega
    simp [hx]
theorem tcn_32 (l : List Nat) (h : 2147483648 ≤ l.length) : tcn (l ++ [32]) = tcn l := by
  rw [tcn_app _ _ h]; simp
theorem tcn_m1 (l : List Nat) (x : Nat) : tcn l ≤ tcn (l ++ [x]) := by
  by_cases q : x ≠ 32 ∨ l.length < 2147483648
  · rw [tcn_1 l x q]; omega
  · have : x = 32 := by omega
    rw [this, tcn_32 l (by omega)]; exact Nat.le_refl _
theorem tcn_m (l : List Nat) : ∀ s, tcn l ≤ tcn (l ++ s) := by
  intro s
  induction s generalizing l with
  | nil => rw [List.append_nil]; exact Nat.le_refl _
  | cons x s ih =>
    have h1 := tcn_m1 l x
    have h2 := ih (l ++ [x])
    rw [show l ++ x :: s = l ++ [x] ++ s by simp]
    omega
/-- what is told so far is l, and byte q is wanted -/
def TlS (M : Mem) (q : Nat) (l : List Nat) : Prop := M.2.2.1 89 48 = nI (tcn l) ∧ M.2.2.1 89 49 = nI q ∧ M.2.2.1 89 50 = (if q < 2147483648 then gtN l q else -1) ∧ tcn l < 4294967295 ∧ (q < 2147483648 ∨ q = 4294967295)
theorem gtN_app (l : List Nat) (x q : Nat) : gtN (l ++ [x]) q = if q = l.length then nI x else gtN l q := by
  unfold gtN
  by_cases h : q = l.length
  · rw [if_pos h, h]; simp
  · rw [if_neg h]
    by_cases h2 : q < l.length
    · rw [List.getElem?_append_left h2]
    · rw [List.getElem?_eq_none (by simp; omega), List.getElem?_eq_none (by omega)]
section SP
variable {M : Mem} {q : Nat} {l : List Nat}
theorem TlS.tell (h : TlS M q l) (hW : Wd M) (k x : Nat) (hx : x ≠ 32 ∨ l.length < 2147483648) (hl : tcn (l ++ [x]) < 4294967295) : ∃ M1, f_X11_tells k 89 (nI x) M = some ((), M1) ∧ Fr STq M M1 ∧ TlS M1 q (l ++ [x]) := by
  obtain ⟨h1, h2, h3, h5, h8⟩ := h
  have e1 := tcn_1 l x hx
  have e : f_X11_tells k 89 (nI x) M = if nI (tcn l) = nI q then some ((), wI (wI M 89 50 (nI x)) 89 48 (nI (tcn l + 1))) else some ((), wI M 89 48 (nI (tcn l + 1))) := by
    unfold f_X11_tells b_X11_tells
    simp (disch := omega) only [T_X11_tells_0, W_89 hW, gd_true, fO, Nat.reduceLT, and_self, h1, h2, up2_if, Nat.reduceEqDiff, and_false, if_false, nI_1]
  have hs : l.length < 2147483648 → tcn l = l.length := fun w => tcn_s (by omega)
  have hb : 2147483648 ≤ l.length → 2147483648 ≤ tcn l := fun w => by rw [tcn_b w]; omega
  have hq : q < 2147483648 → (tcn l = q ↔ q = l.length) := by
    intro hq
    have := tcn_le l
    constructor
    · intro w
      by_cases hlt : l.length < 2147483648
      · have := hs hlt; omega
      · have := hb (by omega); omega
    · intro w
      have := hs (by omega)
      omega
  by_cases hm : tcn l = q
  · rw [e, if_pos (by rw [hm])]
    have h9 : q < 2147483648 := by omega
    refine ⟨_, rfl, (Fr.refl.wI ⟨rfl, Or.inr rfl⟩ _).wI ⟨rfl, Or.inl rfl⟩ _, by simp [up2_if, e1], by simp [up2_if]; exact h2, ?_, hl, h8⟩
    rw [if_pos h9, gtN_app, if_pos ((hq h9).mp hm)]
    simp [up2_if]
  · rw [e, if_neg (fun w => hm (nI_inj32 (by omega) (by omega) w))]
    refine ⟨_, rfl, Fr.refl.wI ⟨rfl, Or.inl rfl⟩ _, by simp [up2_if, e1], by simp [up2_if]; exact h2, ?_, hl, h8⟩
    by_cases h9 : q < 2147483648
    · rw [if_pos h9, gtN_app, if_neg (fun w => hm ((hq h9).mpr w))]
      rw [if_pos h9] at h3
      simp [up2_if]; exact h3
    · rw [if_neg h9] at h3 ⊢
      simp [up2_if]; exact h3
theorem TlS.bl0 (h : TlS M q l) (hc : M.2.2.1 89 48 ≤ 0) : TlS M q (spB l) := by
  by_cases e : l = []
  · rw [spB, if_pos e, ← e]; exact h
  · obtain ⟨h1, h2, h3, h5, h8⟩ := h
    have hlen : 0 < l.length := List.length_pos_iff.mpr e
    have hbig : 2147483648 ≤ l.length := by
      refine Nat.le_of_not_lt (fun w => ?_)
      rw [h1, tcn_s (by omega), show (0 : Int32) = nI 0 from rfl, nI_le_ (by omega) (by omega)] at hc
      omega
    have e1 := tcn_32 l hbig
    rw [spB, if_neg e]
    refine ⟨by rw [e1]; exact h1, h2, ?_, by rw [e1]; exact h5, h8⟩
    by_cases h9 : q < 2147483648
    · rw [if_pos h9] at h3 ⊢
      rw [gtN_app, if_neg (by omega)]
      exact h3
    · rw [if_neg h9] at h3 ⊢
      exact h3
theorem TlS.bl1 (h : TlS M q l) (hc : ¬ M.2.2.1 89 48 ≤ 0) : spB l = l ++ [32] ∧ l.length < 2147483648 := by
  obtain ⟨h1, h2, h3, h5, h8⟩ := h
  refine ⟨if_neg (fun e => ?_), Nat.lt_of_not_le (fun w => ?_)⟩
  · rw [h1, e] at hc
    exact hc (by decide)
  · rw [h1] at hc
    exact hc (nI_big (by rw [tcn_b w]; omega) (by omega))
theorem spB_len (l : List Nat) : (spB l).length ≤ l.length + 1 ∧ l.length ≤ (spB l).length := by
  unfold spB
  split
  · rename_i h; rw [h]; simp
  · simp
/-- letters, one behind the other -/
theorem TlS.w17 (k : Nat) {w : Nat} (hw : w < 22) : ∀ z t, t + z = woff w → ∀ c, c ≤ w → woff c ≤ t → (∀ c', c' ≤ w → woff c' ≤ t → c' ≤ c) → lp (st_X11_tellsWord (k + 5)) (17, [.ref 89, .int (nI w), .int (nI t), .int (nI c)], M) = lp (st_X11_tellsWord (k + 5)) (42, [.ref 89, .int (nI (woff w))], M) := by
  have mono : ∀ d c, woff c + d ≤ woff (c + d) := by
    intro d
    induction d with
    | zero => intro c; exact Nat.le_refl _
    | succ d ih =>
      intro c
      have := ih c
      rw [show c + (d + 1) = (c + d) + 1 by omega]
      show woff c + (d + 1) ≤ woff (c + d) + wlen (c + d) + 1
      omega
  intro z
  induction z with
  | zero =>
    intro t ht c hc hct hmax
    have e : c = w := by
      have := hmax w (Nat.le_refl _) (by omega)
      omega
    refine (ge_X11_tellsWord_17 (k + 5) 89 _ _ _ M).trans ?_
    have : t = woff w := by omega
    subst e
    simp (disch := omega) only [T_X11_tellsWord_17, nI_le_, Nat.le_refl, if_true, this]
  | succ z ih =>
    intro t ht c hc hct hmax
    have hcw : c < w := by
      refine Nat.lt_of_le_of_ne hc (fun e => ?_)
      subst e
      omega
    have hc22 : c < 22 := by omega
    have ho := woff_is.2 c hc22
    have hnx : t < woff (c + 1) := by
      refine Nat.lt_of_not_le (fun w' => ?_)
      have := hmax (c + 1) (by omega) w'
      omega
    have hnx' : t < woff c + wlen c + 1 := hnx
    have h74 : woff w + wlen w < 74 := (woff_is.2 w hw).1
    have hv : vp_in (nI t) 74 := vp_nI (by omega) (by omega)
    have step : lp (st_X11_tellsWord (k + 5)) (17, [.ref 89, .int (nI w), .int (nI t), .int (nI c)], M) = if tch 1 t = 32 then lp (st_X11_tellsWord (k + 5)) (17, [.ref 89, .int (nI w), .int (nI (t + 1)), .int (nI (c + 1))], M) else lp (st_X11_tellsWord (k + 5)) (17, [.ref 89, .int (nI w), .int (nI (t + 1)), .int (nI c)], M) := by
      refine (ge_X11_tellsWord_17 (k + 5) 89 _ _ _ M).trans ?_
      simp (disch := omega) only [T_X11_tellsWord_17, nI_le_, nI_z, hv, gd_true, nI_1, and_true]
      rw [if_neg (by omega), gd_pos (show 4 ≤ k + 5 by omega)]
    rw [step]
    by_cases hb : t = woff c + wlen c
    · rw [if_pos (by rw [hb]; exact ho.2.1)]
      refine ih (t + 1) (by omega) (c + 1) (by omega) (by show woff c + wlen c + 1 ≤ t + 1; omega) (fun c' h1 h2 => ?_)
      refine Nat.le_of_not_lt (fun h3 => ?_)
      obtain ⟨d, hd⟩ : ∃ d, c' = (c + 1) + (d + 1) := ⟨c' - c - 2, by omega⟩
      have h4 := mono (d + 1) (c + 1)
      rw [← hd] at h4
      have h5 : woff (c + 1) = woff c + wlen c + 1 := rfl
      omega
    · obtain ⟨i, hi⟩ : ∃ i, t = woff c + i := ⟨t - woff c, by omega⟩
      have hl5 := (wch_is c hc22).1
      have hch := ho.2.2 i (by omega) (by omega)
      have hx := ((wch_is c hc22).2 i (by omega)).1
      unfold isLt at hx
      have hne : ¬ tch 1 t = 32 := by
        rw [hi, hch.1, show (32 : Int32) = nI 32 from rfl, nI_eq_ (by omega) (by omega)]
        exact hch.2
      rw [if_neg hne]
      refine ih (t + 1) (by omega) c hc (by omega) (fun c' h1 h2 => ?_)
      refine Nat.le_of_not_lt (fun h3 => ?_)
      obtain ⟨d, hd⟩ : ∃ d, c' = (c + 1) + d := ⟨c' - c - 1, by omega⟩
      have h4 := mono d (c + 1)
      rw [← hd] at h4
      have h5 : woff (c + 1) = woff c + wlen c + 1 := rfl
      omega
end SP
