/-! READING A TERM in the reference: a first word -/
def okD (l : List (Nat × Tm)) : Prop := ∀ nd, nd ∈ l → tf nd.1 → wdf nd.2 ≤ 60
def NwR (M : Mem) (c : Nat) (x : Int32) : Prop := ∃ v, v < c ∧ x = nI v ∧ wdf (dR M v) ≤ 60
def RrS (M : Mem) (c : Nat) (b : Nat → Nat) (n : Nat) (H : List (Nat × Fm)) (sc : List Nat) (l : List (Nat × Tm)) (pls : List Nat) (p : Nat) : Prop := Wd M ∧ TxR M b n ∧ TabR M c ∧ HyR M 15 96 97 98 c H ∧ (M.2.2.1 89 24 = nI l.length ∧ RowR M 105 106 0 c l ∧ okD l) ∧ (PcR M pls ∧ pls.length = l.length) ∧ ScR M sc ∧ (M.2.2.1 89 29 = nI p ∧ p ≤ n) ∧ M.2.2.1 89 30 = 0 ∧ M.2.2.1 89 31 = -1
def SRy (a k : Nat) : Prop := SR a k ∨ (a = 89 ∧ (k = 24 ∨ k = 29 ∨ k = 30 ∨ k = 31 ∨ k = 34 ∨ k = 39)) ∨ a = 105 ∨ a = 106 ∨ a = 110 ∨ a = 111 ∨ a = 112
/-- rows that may be tidied -/
def WkO (M : Mem) (c : Nat) : Prop := ∃ m, m ≤ 121 ∧ M.2.2.1 89 24 = nI m ∧ ∀ i, i < m → M.2.2.1 105 i = 0 ∨ M.2.2.1 106 i < 0 ∨ NwR M c (M.2.2.1 106 i)
theorem dpf_wdf : ∀ f : Fm, dpf f ≤ wdf f := by
  intro f
  induction f with
  | add a b ia ib => show 1 + max (dpf a) (dpf b) ≤ 1 + wdf a + wdf b; omega
  | mul a b ia ib => show 1 + max (dpf a) (dpf b) ≤ 1 + wdf a + wdf b; omega
  | sub a b ia ib => show 1 + max (dpf a) (dpf b) ≤ 1 + wdf a + wdf b; omega
  | _ => first | exact Nat.le_refl _ | (show _ ≤ 1; unfold dpf; omega)
theorem hdF_w60 {b : Nat → Nat} {n p : Nat} {w : List Nat × Nat} (hp : p ≤ n) (h : scan b n 30 p 1 = .inr w) : wdf (hdF w.1) ≤ 60 := by
  have hc := (scan_chk (l := w.1) (q := w.2) hp h).1
  have hl := scan_len (l := w.1) (q := w.2) h
  have hs := ev_sum hc
  have he := (ev_app hc).1
  have hcount : w.1.count 12 ≤ w.1.length := List.count_le_length
  unfold hdF
  cases hh : ev w.1 with
  | nil => rw [hh] at he; simp at he
  | cons f t =>
    rw [hh] at hs
    have : sumF (f :: t) = wdf f + sumF t := rfl
    show wdf f ≤ 60
    omega
section RRV
variable {M M1 : Mem} {b : Nat → Nat} {n : Nat} {c c1 : Nat} {H : List (Nat × Fm)} {sc : List Nat} {l : List (Nat × Tm)} {pls : List Nat} {p : Nat}
theorem isN_tq (hp : p ≤ n) : isN b n (tq b n p) ↔ isN b n p := by
  unfold isN tw
  rw [(tq_tq b n p hp).1, (tq_tq b n p hp).2]
theorem RowR.push {ak aa : Nat} {o : Nat} {lb : Tm} {g : Int32} (h : RowR M ak aa 0 c l) (h1 : 1 ≤ o) (h10 : o ≤ 10) (e1 : ∀ i, i < l.length → M1.2.2.1 ak i = M.2.2.1 ak i) (e2 : ∀ i, i < l.length → M1.2.2.1 aa i = M.2.2.1 aa i) (e3 : M1.2.2.1 ak l.length = nI (o - 1)) (e4 : M1.2.2.1 aa l.length = g) (hd : ∀ i, i < c → dR M1 i = dR M i) (hc : c ≤ c1) (hg : agR M1 c1 (o, lb) g) : RowR M1 ak aa 0 c1 (l ++ [(o, lb)]) := by
  refine ⟨fun nd hn => ?_, fun i nd hi => ?_⟩
  · rw [List.mem_append, List.mem_singleton] at hn
    rcases hn with hn | rfl
    · exact h.1 nd hn
    · exact ⟨h1, h10⟩
  · rw [Nat.zero_add]
    rcases get_app hi with ⟨g1, g2⟩ | ⟨g1, g2⟩
    · obtain ⟨a1, a2⟩ := h.2 i nd g2
      rw [Nat.zero_add] at a1 a2
      rw [e1 i g1, e2 i g1]
      exact ⟨a1, a2.mv hd hc⟩
    · subst g1 g2
      rw [e3, e4]
      exact ⟨rfl, hg⟩
theorem RrS.ok (h : RrS M c b n H sc l pls p) (hl : l.length ≤ 120) {M1 : Mem} {c1 : Nat} (e0 : M1.2.2.1 89 24 = M.2.2.1 89 24) (e1 : M1.2.2.1 105 = M.2.2.1 105) (e2 : M1.2.2.1 106 = M.2.2.1 106) (hd : ∀ i, i < c → dR M1 i = dR M i) (hc : c ≤ c1) : WkO M1 c1 := by
  obtain ⟨-, -, -, -, ⟨h24, hR, hD⟩, -⟩ := h
  refine ⟨l.length, by omega, e0.trans h24, fun i hi => ?_⟩
  rw [e1, e2]
  obtain ⟨a1, a2, a3, a4⟩ := hR.2 i _ (opl_get hi)
  rw [Nat.zero_add] at a1 a2 a3 a4
  by_cases h1 : opl l i = 1
  · left
    rw [a1, h1]
    rfl
  · by_cases ht : tf (opl l i)
    · obtain ⟨v, g1, g2, g3⟩ := a3 ht
      refine Or.inr (Or.inr ⟨v, by omega, g2, ?_⟩)
      rw [hd v g1, g3]
      exact hD _ (List.mem_of_getElem? (opl_get hi)) ht
    · right
      left
      rw [a4 h1 ht]
      decide
/-- what is known behind a fault -/
def RyF (M : Mem) (c n p : Nat) (M1 : Mem) (e : Nat × Nat) : Prop := Fr SRy M M1 ∧ M1.2.2.1 89 30 = nI e.1 ∧ M1.2.2.1 89 31 = nI e.2 ∧ (1 ≤ e.1 ∧ e.1 ≤ 5) ∧ ∃ c1, TabR M1 c1 ∧ c ≤ c1 ∧ c1 ≤ c + 60 + (n - p) ∧ (∀ i, i < c → dR M1 i = dR M i) ∧ WkO M1 c1
def RyG (M : Mem) (c n p : Nat) (M1 : Mem) (c1 q : Nat) : Prop := Fr SRy M M1 ∧ c ≤ c1 ∧ c1 + (n - q) ≤ c + (n - p) ∧ ∀ i, i < c → dR M1 i = dR M i
theorem RyG.trans {M M1 M2 : Mem} {c c1 c2 n p q r : Nat} (h : RyG M c n p M1 c1 q) (k : RyG M1 c1 n q M2 c2 r) : RyG M c n p M2 c2 r := ⟨h.1.trans k.1, Nat.le_trans h.2.1 k.2.1, Nat.le_trans k.2.2.1 h.2.2.1, fun i hi => (k.2.2.2 i (Nat.lt_of_lt_of_le hi h.2.1)).trans (h.2.2.2 i hi)⟩
theorem RyG.flt {M M1 M2 : Mem} {c c1 n p q : Nat} {e : Nat × Nat} (h : RyG M c n p M1 c1 q) (k : RyF M1 c1 n q M2 e) : RyF M c n p M2 e := by
  obtain ⟨k1, k2, k3, k4, c2, k5, k6, k7, k8, k9⟩ := k
  exact ⟨h.1.trans k1, k2, k3, k4, c2, k5, Nat.le_trans h.2.1 k6, by have := h.2.2.1; omega, fun i hi => (k8 i (Nat.lt_of_lt_of_le hi h.2.1)).trans (h.2.2.2 i hi), k9⟩
theorem tabR_mv {S : Nat → Nat → Prop} (h : TabR M c) (hF : Fr S M M1) (h7 : ¬ S 89 7) (hS : ∀ a k, S a k → ¬ (90 ≤ a ∧ a ≤ 94)) : TabR M1 c ∧ ∀ i, dR M1 i = dR M i := h.fr hF h7 (fun k q => hS _ _ q (by omega)) (fun k q => hS _ _ q (by omega)) (fun k q => hS _ _ q (by omega)) (fun k q => hS _ _ q (by omega)) (fun k q => hS _ _ q (by omega))
/-- behind a fault the rest writes only where nobody looks -/
theorem RyF.dd {M M1 M2 : Mem} {e : Nat × Nat} (hc0 : 0 < c) (h : RyF M c n p M1 e) (hF : Fr SDd M1 M2) (h106 : ∀ m, M1.2.2.1 89 24 = nI m → m ≤ 400 → ∀ i, i < m → M2.2.2.1 106 i = M1.2.2.1 106 i ∨ M2.2.2.1 106 i = 0) : RyF M c n p M2 e := by
  obtain ⟨k1, k2, k3, k4, c1, k5, k6, k7, k8, m, k9, k10, k11⟩ := h
  obtain ⟨T2, d2⟩ := tabR_mv k5 hF (by unfold SDd; omega) (fun a k q => by unfold SDd at q; omega)
  refine ⟨k1.trans (hF.mono (fun a k q => by unfold SDd at q; unfold SRy; omega)), (hF.int (by unfold SDd; omega)).trans k2, (hF.int (by unfold SDd; omega)).trans k3, k4, c1, T2, k6, k7, fun i hi => (d2 i).trans (k8 i hi), m, k9, (hF.int (by unfold SDd; omega)).trans k10, fun i hi => ?_⟩
  rw [hF.int (show ¬ SDd 105 i by unfold SDd; omega)]
  rcases h106 m k10 (by omega) i hi with q | q
  · rw [q]
    rcases k11 i hi with z | z | ⟨v, z1, z2, z3⟩
    · exact Or.inl z
    · exact Or.inr (Or.inl z)
    · exact Or.inr (Or.inr ⟨v, z1, z2, by rw [d2]; exact z3⟩)
  · rw [q]
    have hc : 0 < c1 := Nat.lt_of_lt_of_le hc0 k6
    refine Or.inr (Or.inr ⟨0, hc, rfl, ?_⟩)
    rcases T2.cases hc with ⟨j, hj, -, -, -, e4⟩ | ⟨j, a, b, -, -, ha, -⟩
    · rw [e4]
      show 1 ≤ 60
      omega
    · omega
/-- how reading a term ends -/
def RyO (N : Nat) (M : Mem) (c : Nat) (b : Nat → Nat) (n : Nat) (H : List (Nat × Fm)) (sc : List Nat) (l : List (Nat × Tm)) (pls : List Nat) (p : Nat) (r : RdR) : Prop := match r with
  | .inl e => ∃ M1, f_X11_readTerm N 89 M = some ((), M1) ∧ RyF M c n p M1 e
  | .inr r => ∃ M1 c1, f_X11_readTerm N 89 M = some ((), M1) ∧ RyG M c n p M1 c1 r.2.2 ∧ RrS M1 c1 b n H sc (l ++ rws r.1) (pls ++ r.2.1) r.2.2
/-- the word, the name, where they stand -/
theorem ry_head (h : RrS M c b n H sc l pls p) (k : Nat) : ∃ M2, Fr SP M M2 ∧ M2.2.2.1 89 29 = nI (tq b n p) ∧ (isN b n p → f_X11_readTerm (k + 6) 89 M = (match f_X11_readName0 (k + 5) 89 (nI (tq b n p)) (nI (te b n p - tq b n p)) M2 with | some r => some ((), r.2) | none => none)) ∧ (¬ isN b n p → ¬ (13 ≤ tw b n p ∧ tw b n p ≤ 21) → f_X11_readTerm (k + 6) 89 M = some ((), wI (wI M2 89 30 1) 89 31 (nI (tq b n p)))) ∧ (¬ isN b n p → 13 ≤ tw b n p ∧ tw b n p ≤ 21 → ∀ M3, f_X11_adds (k + 5) 89 (nI (tq b n p)) (nI (tw b n p - 12)) (-1) M2 = some ((), M3) → Wd M3 → (tw b n p ≠ 13 → f_X11_readTerm (k + 6) 89 M = lpR (k + 5) 87 [.ref 89, .int (M2.2.2.1 89 24), .int (nI (tw b n p - 12))] M3) ∧ (tw b n p = 13 → ∀ M4, f_X11_tells0 (k + 5) 89 M3 = some ((), M4) → f_X11_readTerm (k + 6) 89 M = lpR (k + 5) 87 [.ref 89, .int (M2.2.2.1 89 24), .int (nI (tw b n p - 12))] M4)) := by
  obtain ⟨hW, hX, hT, hH, hR, hPc, hS, ⟨h29, hp⟩, h30, h31⟩ := h
  have hle := tq_le b n p hp
  have h6 := hX.2.1
  have hO := fO_R hW
  obtain ⟨M1, e1, F1, g1⟩ := rx_word hW hX (k + 1) h29 hp
  have hW1 := F1.Wd hW
  have hX1 : TxR M1 b n := hX.fr F1 (by unfold SP; omega) (fun k => by unfold SP; omega)
  obtain ⟨M2, F2, g2, n1, n2⟩ := rx_nameHere hW1 hX1 k g1 hle.2.1
  rw [(tq_tq b n p hp).1] at g2
  rw [(tq_tq b n p hp).1, (tq_tq b n p hp).2, isN_tq hp] at n1
  rw [isN_tq hp] at n2
  have hW2 := F2.Wd hW1
  have hO1 := fO_R hW1
  have hO2 := fO_R hW2
  have h302 : M2.2.2.1 89 30 = 0 := (F2.int (by unfold SP; omega)).trans ((F1.int (by unfold SP; omega)).trans h30)
  obtain ⟨m, hm⟩ : ∃ m, m = k + 5 := ⟨_, rfl⟩
  rw [show k + 1 + 4 = m by omega] at e1
  rw [← hm] at n1 n2
  rw [← hm, show k + 6 = m + 1 by omega]
  refine ⟨M2, F1.trans F2, g2, fun hN => ?_, fun hN hw => ?_, fun hN hw M3 ea hW3 => ?_⟩
  · have e2 := n1 hN
    have hlt := hN.1
    have hpos : (nI (te b n p - tq b n p) ≤ (0 : Int32)) = False := eq_false (fun q => by have := (nI_leI (b := 0) (by omega) (by omega)).mp q; omega)
    rw [rt_eq]
    unfold T_X11_readTerm_0
    simp (disch := omega) only [↓reduceIte, ↓gd_pos hO, h30, ↓bnd2_of (show cal (m + 1) (fun zz => f_X11_wordNext zz 89 M) = _ from e1), ↓gd_pos hO1, ↓bnd2_of (show cal (m + 1) (fun zz => f_X11_nameHere zz 89 M1) = _ from e2), hpos, ↓gd_pos hO2, g1, cal_s]
    cases f_X11_readName0 m 89 (nI (tq b n p)) (nI (te b n p - tq b n p)) M2 with
    | none => rfl
    | some r => rfl
  · have e2 := n2 hN
    have hin : f_X11_isIn m (Int32.toInt64 (wcd b (tq b n p) (te b n p - tq b n p))) 13 21 M2 = some (0, M2) := by
      have key := rx_isIn (M := M2) m (Int32.toInt64 (wcd b (tq b n p) (te b n p - tq b n p))) (Int32.toInt64 13) (Int32.toInt64 21)
      rw [fa_wide_le, fa_wide_le] at key
      refine key.2 (fun q => ?_)
      rcases tw_is b n p hp with ⟨t1, t2, -⟩ | ⟨t1, t2, -⟩
      · rw [t2] at q
        have a := (nI_leI (a := 13) (by omega) (by omega)).mp q.1
        have b' := (nI_leI (b := 21) (by omega) (by omega)).mp q.2
        exact hw ⟨a, b'⟩
      · rw [t2] at q
        exact absurd q.1 (by decide)
    have ef := (rx_fails hW2 m 1 (nI (tq b n p))).1 h302
    have Ef : cal (m + 1) (fun zz => f_X11_fails zz 89 1 (M1.2.2.1 89 29) M2) = some ((), wI (wI M2 89 30 1) 89 31 (nI (tq b n p))) := by
      rw [cal_s, g1]
      exact ef
    rw [rt_eq]
    unfold T_X11_readTerm_0
    simp (disch := omega) only [↓reduceIte, ↓gd_pos hO, h30, ↓bnd2_of (show cal (m + 1) (fun zz => f_X11_wordNext zz 89 M) = _ from e1), ↓gd_pos hO1, ↓bnd2_of (show cal (m + 1) (fun zz => f_X11_nameHere zz 89 M1) = _ from e2), show ((0 : Int32) ≤ 0) = True from eq_true (by decide), ↓bnd2_of (show cal (m + 1) (fun zz => f_X11_isIn zz (Int32.toInt64 (wcd b (tq b n p) (te b n p - tq b n p))) 13 21 M2) = _ from hin), ↓gd_pos hO2, ↓bnd2_of Ef]
  · have e2 := n2 hN
    have hwc : wcd b (tq b n p) (te b n p - tq b n p) = nI (tw b n p) := by
      rcases tw_is b n p hp with ⟨t1, t2, -⟩ | ⟨t1, -⟩
      · exact t2
      · omega
    have hin : f_X11_isIn m (Int32.toInt64 (wcd b (tq b n p) (te b n p - tq b n p))) 13 21 M2 = some (1, M2) := by
      have key := rx_isIn (M := M2) m (Int32.toInt64 (wcd b (tq b n p) (te b n p - tq b n p))) (Int32.toInt64 13) (Int32.toInt64 21)
      rw [fa_wide_le, fa_wide_le] at key
      refine key.1 ?_
      rw [hwc]
      exact ⟨(nI_leI (a := 13) (by omega) (by omega)).mpr hw.1, (nI_leI (b := 21) (by omega) (by omega)).mpr hw.2⟩
    have hk : wcd b (tq b n p) (te b n p - tq b n p) - 13 + 1 = nI (tw b n p - 12) := by
      rw [hwc]
      exact (show ∀ w, w < 22 → 13 ≤ w → nI w - 13 + 1 = nI (w - 12) by decide +kernel) _ (by omega) hw.1
    have Ea : cal (m + 1) (fun zz => f_X11_adds zz 89 (M1.2.2.1 89 29) ((wcd b (tq b n p) (te b n p - tq b n p) - 13) + 1) (-1) M2) = some ((), M3) := by
      rw [cal_s, g1, hk]
      exact ea
    have hO3 := fO_R hW3
    constructor
    · intro h13
      have hne : (wcd b (tq b n p) (te b n p - tq b n p) - 13 + 1 = (1 : Int32)) = False := eq_false (fun q => by
        rw [hk] at q
        have := (nI_eq (b := 1) (by omega) (by omega)).mp q
        omega)
      rw [rt_eq]
      unfold T_X11_readTerm_0
      simp (disch := omega) only [↓reduceIte, ↓gd_pos hO, h30, ↓bnd2_of (show cal (m + 1) (fun zz => f_X11_wordNext zz 89 M) = _ from e1), ↓gd_pos hO1, ↓bnd2_of (show cal (m + 1) (fun zz => f_X11_nameHere zz 89 M1) = _ from e2), show ((0 : Int32) ≤ 0) = True from eq_true (by decide), ↓bnd2_of (show cal (m + 1) (fun zz => f_X11_isIn zz (Int32.toInt64 (wcd b (tq b n p) (te b n p - tq b n p))) 13 21 M2) = _ from hin), ↓gd_pos hO2, ↓bnd2_of Ea, show ((1 : Int32) = 0) = False from eq_false (by decide), hne]
      rw [hk]
    · intro h13 M4 et
      have heq : (wcd b (tq b n p) (te b n p - tq b n p) - 13 + 1 = (1 : Int32)) = True := eq_true (by rw [hk, h13]; rfl)
      rw [rt_eq]
      unfold T_X11_readTerm_0
      simp (disch := omega) only [↓reduceIte, ↓gd_pos hO, h30, ↓bnd2_of (show cal (m + 1) (fun zz => f_X11_wordNext zz 89 M) = _ from e1), ↓gd_pos hO1, ↓bnd2_of (show cal (m + 1) (fun zz => f_X11_nameHere zz 89 M1) = _ from e2), show ((0 : Int32) ≤ 0) = True from eq_true (by decide), ↓bnd2_of (show cal (m + 1) (fun zz => f_X11_isIn zz (Int32.toInt64 (wcd b (tq b n p) (te b n p - tq b n p))) 13 21 M2) = _ from hin), ↓gd_pos hO2, ↓bnd2_of Ea, show ((1 : Int32) = 0) = False from eq_false (by decide), heq, ↓gd_pos hO3, ↓bnd2_of (show cal (m + 1) (fun zz => f_X11_tells0 zz 89 M3) = _ from et)]
      rw [hk]
end RRV
