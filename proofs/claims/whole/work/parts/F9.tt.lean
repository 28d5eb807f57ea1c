/-! SPELLING: levels and terms, in the reference -/
theorem lv_ar : ∀ v, v < 201 → (v < 26 → nI v / 26 < 1) ∧ (26 ≤ v → ¬ nI v / 26 < 1 ∧ nI v / 26 < 1 * 26) ∧ 97 + (nI v / 1 - nI v / 1 / 26 * 26) = nI (97 + v % 26) ∧ (26 ≤ v → 97 + (nI v / 26 - nI v / 26 / 26 * 26) = nI (97 + v / 26)) := by decide +kernel
theorem neg_n1 (k : Nat) : -1 - (-1 - nI k) = nI k := by
  apply Int32.toBitVec_inj.mp
  show (-1 : BitVec 32) - ((-1 : BitVec 32) - BitVec.ofNat 32 k) = BitVec.ofNat 32 k
  generalize BitVec.ofNat 32 k = x
  bv_omega
section TL9
variable {M : Mem} {q : Nat} {l : List Nat}
theorem TlS.l39 (hS : TlS M q l) (hW : Wd M) (k : Nat) {v y : Nat} {x3 : Int32} (h0 : ¬ x3 ≤ 0) (hz : ¬ x3 = 0) (hy : 97 + (nI v / x3 - nI v / x3 / 26 * 26) = nI y) (hy2 : y ≠ 32) (hl : tcn (l ++ [y]) < 4294967295) : ∃ M1, lp (st_X11_tellsLevel (k + 1)) (39, [.ref 89, .int (nI v), .int x3], M) = lp (st_X11_tellsLevel (k + 1)) (39, [.ref 89, .int (nI v), .int (x3 / 26)], M1) ∧ Fr STq M M1 ∧ TlS M1 q (l ++ [y]) := by
  obtain ⟨M1, e1, F1, S1⟩ := hS.tell hW k y (Or.inl hy2) hl
  refine ⟨M1, ?_, F1, S1⟩
  refine (ge_X11_tellsLevel_39 (k + 1) 89 _ _ M).trans ?_
  simp only [T_X11_tellsLevel_39, if_neg h0, gd_pos hz, W_89 hW, gd_true, fO, Nat.reduceLT, and_self, hy, bnd2_s, cal_s, e1]
theorem TlS.l39e (k : Nat) {v : Nat} {x3 : Int32} (h0 : x3 ≤ 0) : lp (st_X11_tellsLevel (k + 1)) (39, [.ref 89, .int (nI v), .int x3], M) = some ((), M) := by
  refine (ge_X11_tellsLevel_39 (k + 1) 89 _ _ M).trans ?_
  simp only [T_X11_tellsLevel_39, if_pos h0]
theorem TlS.l21 (k : Nat) {v : Nat} (hv : v < 201) : lp (st_X11_tellsLevel (k + 1)) (21, [.ref 89, .int (nI v), .int 1], M) = lp (st_X11_tellsLevel (k + 1)) (39, [.ref 89, .int (nI v), .int (if v < 26 then 1 else 26)], M) := by
  obtain ⟨a1, a2, -, -⟩ := lv_ar v hv
  refine (ge_X11_tellsLevel_21 (k + 1) 89 _ _ M).trans ?_
  simp only [T_X11_tellsLevel_21]
  by_cases h : v < 26
  · rw [if_pos (a1 h), if_pos h]
  · rw [if_neg (a2 (by omega)).1, if_neg h]
    refine (ge_X11_tellsLevel_21 (k + 1) 89 _ _ M).trans ?_
    simp only [T_X11_tellsLevel_21]
    rw [if_pos (a2 (by omega)).2]
    rfl
theorem TlS.lev (h : TlS M q l) (hW : Wd M) (k : Nat) {v : Nat} (hv : v < 201) (hl : tcn (spB l ++ lvl v) < 4294967295) : ∃ M1, f_X11_tellsLevel (k + 1) 89 (nI v) M = some ((), M1) ∧ Fr STq M M1 ∧ TlS M1 q (spB l ++ lvl v) := by
  obtain ⟨-, -, a3, a4⟩ := lv_ar v hv
  have fin : ∀ {M : Mem}, Wd M → TlS M q (spB l) → ∃ M0 M1, f_X11_tells k 89 120 M = some ((), M0) ∧ lp (st_X11_tellsLevel (k + 1)) (21, [.ref 89, .int (nI v), .int 1], M0) = some ((), M1) ∧ Fr STq M M1 ∧ TlS M1 q (spB l ++ lvl v) := by
    intro M hW hS
    by_cases hc : v < 26
    · have e : spB l ++ lvl v = spB l ++ [120] ++ [97 + v] := by rw [lvl, if_pos hc]; simp
      rw [e] at hl ⊢
      obtain ⟨M0, e0, F0, S0⟩ := hS.tell hW k 120 (Or.inl (by omega)) (Nat.lt_of_le_of_lt (tcn_m _ _) hl)
      obtain ⟨M1, e1, F1, S1⟩ := S0.l39 (F0.Wd hW) k (v := v) (x3 := 1) (y := 97 + v) (by decide) (by decide) (by rw [a3, Nat.mod_eq_of_lt hc]) (by omega) hl
      refine ⟨M0, M1, e0, ?_, F0.trans F1, S1⟩
      rw [TlS.l21 k hv, if_pos hc, e1, TlS.l39e k (by decide)]
    · have e : spB l ++ lvl v = spB l ++ [120] ++ [97 + v / 26] ++ [97 + v % 26] := by rw [lvl, if_neg hc]; simp
      rw [e] at hl ⊢
      have hl2 := Nat.lt_of_le_of_lt (tcn_m (spB l ++ [120] ++ [97 + v / 26]) [97 + v % 26]) hl
      obtain ⟨M0, e0, F0, S0⟩ := hS.tell hW k 120 (Or.inl (by omega)) (Nat.lt_of_le_of_lt (tcn_m _ _) hl2)
      obtain ⟨M1, e1, F1, S1⟩ := S0.l39 (F0.Wd hW) k (v := v) (x3 := 26) (y := 97 + v / 26) (by decide) (by decide) (a4 (by omega)) (by omega) hl2
      obtain ⟨M2, e2, F2, S2⟩ := S1.l39 (F1.Wd (F0.Wd hW)) k (v := v) (x3 := 1) (y := 97 + v % 26) (by decide) (by decide) a3 (by omega) hl
      refine ⟨M0, M2, e0, ?_, (F0.trans F1).trans F2, S2⟩
      rw [TlS.l21 k hv, if_neg hc, e1]
      refine Eq.trans ?_ (TlS.l39e (M := M2) k (v := v) (x3 := 1 / 26) (by decide))
      exact e2
  by_cases hc : M.2.2.1 89 48 ≤ 0
  · obtain ⟨M0, M1, e0, e1, F1, S1⟩ := fin hW (h.bl0 hc)
    refine ⟨M1, ?_, F1, S1⟩
    refine (ge_X11_tellsLevel_0 (k + 1) 89 _ M).trans ?_
    simp only [T_X11_tellsLevel_0, W_89 hW, gd_true, fO, Nat.reduceLT, and_self, if_pos hc, bnd2_s, cal_s, e0]
    exact e1
  · obtain ⟨M3, e3, F3, S3⟩ := h.tell hW k 32 (Or.inr (h.bl1 hc).2) (by rw [← (h.bl1 hc).1]; exact Nat.lt_of_le_of_lt (tcn_m _ _) hl)
    rw [← (h.bl1 hc).1] at S3
    obtain ⟨M0, M1, e0, e1, F1, S1⟩ := fin (F3.Wd hW) S3
    refine ⟨M1, ?_, F3.trans F1, S1⟩
    refine (ge_X11_tellsLevel_0 (k + 1) 89 _ M).trans ?_
    have e3' : f_X11_tells k 89 32 M = some ((), M3) := e3
    simp only [T_X11_tellsLevel_0, W_89 hW, W_89 (F3.Wd hW), gd_true, fO, Nat.reduceLT, and_self, if_neg hc, bnd2_s, cal_s, e3', e0]
    exact e1
end TL9
/-- the pieces of a node of its own -/
def own (pr o : Nat) (f : Fm) (d : Nat) : List (List Nat) := wrd (o + 11) :: ((if o = 2 then [lvl d] else []) ++ (if pr = 0 ∧ (o = 2 ∨ o = 7 ∨ o = 8 ∨ o = 10) then [fsp f] else []))
/-- the pieces of all nodes, in their order (ca: what a case tells ahead of an arm) -/
def nps (nm : Nat → List Nat) (pr : Nat) : Tm → Nat → List (List Nat) → List (List (List Nat))
  | .index k, _, ca => [ca ++ [lvl k]]
  | .arg k, _, ca => [ca ++ [nm k]]
  | .elem (.rem (.index o) f) a, d, ca => (ca ++ own pr o f d) :: nps nm pr a (d + amN o 0) []
  | .div (.rem (.index o) a) b, d, ca => (ca ++ own pr o .null d) :: (nps nm pr a d [] ++ nps nm pr b d [])
  | .sub (.rem m a) b, d, ca => (ca ++ own pr 9 .null d) :: (nps nm pr m d [] ++ (nps nm pr a (d + 1) [lvl d] ++ nps nm pr b (d + 1) [lvl d]))
  | _, _, _ => []
def tls (l : List Nat) (ps : List (List Nat)) : List Nat := ps.foldl (fun l p => spB l ++ p) l
theorem tls_app (l : List Nat) (a b : List (List Nat)) : tls l (a ++ b) = tls (tls l a) b := by unfold tls; rw [List.foldl_append]
theorem tls_cons (l : List Nat) (a : List Nat) (b : List (List Nat)) : tls l (a :: b) = tls (spB l ++ a) b := rfl
theorem tls_nil (l : List Nat) : tls l [] = l := rfl
theorem spB_pre (l : List Nat) : ∃ s, spB l = l ++ s := by
  unfold spB
  split
  · rename_i h; exact ⟨[], by rw [h]; rfl⟩
  · exact ⟨[32], rfl⟩
theorem tls_pre : ∀ (ps : List (List Nat)) (l : List Nat), ∃ s, tls l ps = l ++ s := by
  intro ps
  induction ps with
  | nil => intro l; exact ⟨[], by rw [tls_nil, List.append_nil]⟩
  | cons a ps ih =>
    intro l
    obtain ⟨s, hs⟩ := ih (spB l ++ a)
    obtain ⟨s0, h0⟩ := spB_pre l
    exact ⟨s0 ++ (a ++ s), by rw [tls_cons, hs, h0]; simp⟩
theorem tls_tc (l : List Nat) (ps : List (List Nat)) : tcn l ≤ tcn (tls l ps) := by
  obtain ⟨s, hs⟩ := tls_pre ps l
  rw [hs]
  exact tcn_m _ _
def nmH (H : List (Nat × Fm)) (k : Nat) : List Nat := nsp (H.getD k (0, .null)).1
theorem nmH_at {H : List (Nat × Fm)} {j : Nat} (hj : j < H.length) : nmH H j = nsp H[j].1 := by
  unfold nmH
  rw [List.getD_eq_getElem?_getD, List.getElem?_eq_getElem hj]
  rfl
def STt (a k : Nat) : Prop := a = 89 ∧ (k = 43 ∨ k = 48 ∨ k = 50)
theorem STq_STt : ∀ a k, STq a k → STt a k := fun a k h => by unfold STq at h; unfold STt; omega
/-- the reference while a term is told -/
def TtS (M : Mem) (c : Nat) (lr : List (Nat × Tm)) (H : List (Nat × Fm)) (q p : Nat) (l : List Nat) : Prop := Wd M ∧ TabR M c ∧ WrkR M c lr ∧ HyR M 15 96 97 98 c H ∧ M.2.2.1 89 43 = nI p ∧ TlS M q l
section TT9
variable {M M1 : Mem} {c q p pr : Nat} {l l1 : List Nat} {lr : List (Nat × Tm)} {H : List (Nat × Fm)}
theorem TtS.mv (h : TtS M c lr H q p l) (hF : Fr STq M M1) (hS : TlS M1 q l1) : TtS M1 c lr H q p l1 := by
  obtain ⟨hW, hT, hR, hH, h43, -⟩ := h
  obtain ⟨T1, d1⟩ := tabR_mv hT hF (by unfold STq; omega) (fun a k q => by unfold STq at q; omega)
  exact ⟨hF.Wd hW, T1, hR.mv (hF.int (by unfold STq; omega)) (hF.ints (by unfold STq; omega)) (hF.ints (by unfold STq; omega)) (fun i _ => d1 i) (Nat.le_refl _), hH.fr (hF.int (by unfold STq; omega)) (hF.ints (by unfold STq; omega)) (hF.ints (by unfold STq; omega)) (hF.ints (by unfold STq; omega)) (Nat.le_refl _) (fun i _ => d1 i), (hF.int (by unfold STq; omega)).trans h43, hS⟩
theorem TtS.nx (h : TtS M c lr H q p l) (p1 : Nat) : TtS (wI M 89 43 (nI p1)) c lr H q p1 l := by
  obtain ⟨hW, hT, hR, hH, h43, hS⟩ := h
  have hF : Fr (fun a k => a = 89 ∧ k = 43) M (wI M 89 43 (nI p1)) := Fr.refl.wI ⟨rfl, rfl⟩ _
  obtain ⟨T1, d1⟩ := tabR_mv hT hF (by omega) (fun a k q => by omega)
  exact ⟨hF.Wd hW, T1, hR.mv (hF.int (by omega)) (hF.ints (by omega)) (hF.ints (by omega)) (fun i _ => d1 i) (Nat.le_refl _), hH.fr (hF.int (by omega)) (hF.ints (by omega)) (hF.ints (by omega)) (hF.ints (by omega)) (Nat.le_refl _) (fun i _ => d1 i), by simp [up2_if], ⟨(hF.int (by omega)).trans hS.1, (hF.int (by omega)).trans hS.2.1, (hF.int (by omega)).trans hS.2.2.1, hS.2.2.2⟩⟩
theorem wd_o : ∀ o, o < 11 → 2 ≤ o → nI (o - 1) - 1 + 13 = nI (o + 11) := by decide
variable {cl : Nat → List Value → Mem → Option (Unit × Mem)} {n d : Nat}
/-- what a node tells of its own -/
theorem tt_own (h : TtS M c lr H q p l) (hp : p < lr.length) (ho : 2 ≤ opl lr p) (hpr : pr < 2) (hd : d < 201) (hn : 207 ≤ n) (hf : tf (opl lr p) → dpf (lbl lr p) ≤ 200) (hb : tcn (tls l (own pr (opl lr p) (lbl lr p) d)) < 4294967295) : ∃ M1, lp (st_X11_tellsTerm cl (n + 1)) (0, [.ref 89, .int (nI d), .int (nI pr)], M) = lp (st_X11_tellsTerm cl (n + 1)) (112, [.ref 89, .int (nI d), .int (nI pr), .int (nI p)], M1) ∧ Fr STt M M1 ∧ TtS M1 c lr H q (p + 1) (tls l (own pr (opl lr p) (lbl lr p) d)) := by
  have hW := h.1
  have hR := h.2.2.1
  have hl := hR.2.1
  have hor := hR.2.2.1.at_ hp
  have h5 := hR.kd hp
  have h43 := h.2.2.2.2.1
  obtain ⟨o, hoe⟩ : ∃ o, o = opl lr p := ⟨_, rfl⟩
  rw [← hoe] at ho hor h5 hb hf ⊢
  obtain ⟨M0, hM0⟩ : ∃ M0, M0 = wI M 89 43 (nI (p + 1)) := ⟨_, rfl⟩
  have h0 := h.nx (p + 1)
  rw [← hM0] at h0
  have F0 : Fr STt M M0 := by rw [hM0]; exact Fr.refl.wI (by unfold STt; omega) _
  have hW0 := h0.1
  unfold own at hb ⊢
  rw [tls_cons, tls_app] at hb ⊢
  obtain ⟨s, hs⟩ : ∃ s, s = tls (spB l ++ wrd (o + 11)) (if o = 2 then [lvl d] else []) := ⟨_, rfl⟩
  rw [← hs] at hb ⊢
  have hbs := Nat.lt_of_le_of_lt (tls_tc _ _) hb
  obtain ⟨M1, e1, F1, S1⟩ := h0.2.2.2.2.2.word hW0 (n - 5) (w := o + 11) (by omega) (Nat.lt_of_le_of_lt (tls_tc _ (if o = 2 then [lvl d] else [])) (by rw [← hs]; exact hbs))
  rw [show n - 5 + 5 = n by omega, ← wd_o o (by omega) ho] at e1
  have h1 := h0.mv F1 S1
  have hW1 := h1.1
  have hA5 := fA_R hW (a := 105) (by omega) (s_105 hW) (show p < 400 by omega) (by omega)
  have hA51 := fA_R hW1 (a := 105) (by omega) (s_105 hW1) (show p < 400 by omega) (by omega)
  have hz : (nI (o - 1) = (0 : Int32)) = False := eq_false (fun z => by have := (nI_eq (b := 0) (by omega) (by omega)).mp z; omega)
  have h51 := h1.2.2.1.kd hp
  rw [← hoe] at h51
  -- up to block 89
  have mid : ∃ M2, lp (st_X11_tellsTerm cl (n + 1)) (0, [.ref 89, .int (nI d), .int (nI pr)], M) = lp (st_X11_tellsTerm cl (n + 1)) (89, [.ref 89, .int (nI d), .int (nI pr), .int (nI p)], M2) ∧ Fr STt M M2 ∧ TtS M2 c lr H q (p + 1) s := by
    by_cases ho2 : o = 2
    · rw [if_pos ho2, tls_cons, tls_nil] at hs
      obtain ⟨M2, e2, F2, S2⟩ := S1.lev hW1 (n - 1) hd (by rw [← hs]; exact hbs)
      rw [show n - 1 + 1 = n by omega] at e2
      rw [← hs] at S2
      refine ⟨M2, ?_, (F0.trans (F1.mono STq_STt)).trans (F2.mono STq_STt), h1.mv F2 S2⟩
      refine (ge_X11_tellsTerm_0 cl (n + 1) 89 (nI d) (nI pr) M).trans ?_
      unfold T_X11_tellsTerm_0
      have hq : (nI (o - 1) = (1 : Int32)) = True := eq_true (by rw [ho2]; rfl)
      simp (disch := omega) only [↓gd_pos (fO_R hW), ↓bnd_of (r_89_20 hW), h43, ↓gd_pos hA5, nI_z, up2_if, Nat.reduceEqDiff, false_and, ↓reduceIte, h5, hz, nI_1, ← hM0, ↓bnd2_of (show cal (n + 1) (fun zz => f_X11_tellsWord zz 89 (nI (o - 1) - 1 + 13) M0) = _ from e1), ↓gd_pos (fO_R hW1), ↓bnd_of (r_89_20 hW1), ↓gd_pos hA51, h51, hq, ↓bnd2_of (show cal (n + 1) (fun zz => f_X11_tellsLevel zz 89 (nI d) M1) = _ from e2)]
    · rw [if_neg ho2, tls_nil] at hs
      rw [← hs] at h1
      refine ⟨M1, ?_, F0.trans (F1.mono STq_STt), h1⟩
      refine (ge_X11_tellsTerm_0 cl (n + 1) 89 (nI d) (nI pr) M).trans ?_
      unfold T_X11_tellsTerm_0
      have hq : (nI (o - 1) = (1 : Int32)) = False := eq_false (fun z => by have := (nI_eq (b := 1) (by omega) (by omega)).mp z; omega)
      simp (disch := omega) only [↓gd_pos (fO_R hW), ↓bnd_of (r_89_20 hW), h43, ↓gd_pos hA5, nI_z, up2_if, Nat.reduceEqDiff, false_and, ↓reduceIte, h5, hz, nI_1, ← hM0, ↓bnd2_of (show cal (n + 1) (fun zz => f_X11_tellsWord zz 89 (nI (o - 1) - 1 + 13) M0) = _ from e1), ↓gd_pos (fO_R hW1), ↓bnd_of (r_89_20 hW1), ↓gd_pos hA51, h51, hq]
  obtain ⟨M2, e2, F2, h2⟩ := mid
  have hW2 := h2.1
  have hA6 := fA_R hW2 (a := 106) (by omega) (s_106 hW2) (show p < 400 by omega) (by omega)
  have hag := h2.2.2.1.ag hp
  rw [← hoe] at hag
  rw [e2]
  have g1 : lp (st_X11_tellsTerm cl (n + 1)) (89, [.ref 89, .int (nI d), .int (nI pr), .int (nI p)], M2) = _ := ge_X11_tellsTerm_89 cl (n + 1) 89 (nI d) (nI pr) (nI p) M2
  by_cases ht : o = 2 ∨ o = 7 ∨ o = 8 ∨ o = 10
  · obtain ⟨i, i1, i2, i3⟩ := hag.2.1 ht
    have i3 : dR M2 i = lbl lr p := i3
    have hi : i < 16384 := by have := h2.2.1.2.1; omega
    by_cases hp0 : pr = 0
    · rw [if_pos ⟨hp0, ht⟩, tls_cons, tls_nil] at hb ⊢
      obtain ⟨M3, e3, F3, S3⟩ := TlS.frm (q := q) 200 (n - 207) i c M2 s hW2 h2.2.1 i1 (by rw [i3]; exact hf ht) h2.2.2.2.2.2 (by rw [i3]; exact hb)
      rw [show 200 + 7 + (n - 207) = n by omega] at e3
      rw [i3] at S3
      refine ⟨M3, ?_, F2.trans (F3.mono STq_STt), h2.mv F3 S3⟩
      rw [g1]
      unfold T_X11_tellsTerm_89
      have hlt : (nI i < (0 : Int32)) = False := eq_false (fun z => by rw [show (0 : Int32) = nI 0 from rfl, nI_lt_ (by omega) (by omega)] at z; omega)
      simp (disch := omega) only [↓gd_pos (fO_R hW2), ↓bnd_of (r_89_21 hW2), ↓gd_pos hA6, nI_z, i2, hlt, ↓reduceIte, hp0, show (nI 0 = (0 : Int32)) = True from eq_true rfl, ↓bnd2_of (show cal (n + 1) (fun zz => f_X11_tellsFormula zz 89 (nI i) M2) = _ from e3)]
    · rw [if_neg (fun w => hp0 w.1), tls_nil]
      refine ⟨M2, ?_, F2, h2⟩
      rw [g1]
      unfold T_X11_tellsTerm_89
      have hlt : (nI i < (0 : Int32)) = False := eq_false (fun z => by rw [show (0 : Int32) = nI 0 from rfl, nI_lt_ (by omega) (by omega)] at z; omega)
      have hp1 : (nI pr = (0 : Int32)) = False := eq_false (fun z => by have := (nI_eq (b := 0) (by omega) (by omega)).mp z; omega)
      simp (disch := omega) only [↓gd_pos (fO_R hW2), ↓bnd_of (r_89_21 hW2), ↓gd_pos hA6, nI_z, i2, hlt, ↓reduceIte, hp1]
  · rw [if_neg (fun w => ht w.2), tls_nil]
    refine ⟨M2, ?_, F2, h2⟩
    rw [g1]
    unfold T_X11_tellsTerm_89
    have i2 : M2.2.2.1 106 p = -1 := hag.2.2 (by show o ≠ 1; omega) ht
    simp (disch := omega) only [↓gd_pos (fO_R hW2), ↓bnd_of (r_89_21 hW2), ↓gd_pos hA6, nI_z, i2, show ((-1 : Int32) < 0) = True from eq_true (by decide), ↓reduceIte]
end TT9
