/-! SIZE in the class -/
def ht : Tm → Nat
  | .elem (.rem (.index _) _) a => 1 + ht a
  | .div (.rem (.index _) a) b => 1 + max (ht a) (ht b)
  | .sub (.rem m a) b => 1 + max (ht m) (max (ht a) (ht b))
  | _ => 1
theorem ht_U {o : Nat} {f a : Tm} : ht (tU o f a) = 1 + ht a := rfl
theorem ht_B {o : Nat} {a b : Tm} : ht (tB o a b) = 1 + max (ht a) (ht b) := rfl
theorem ht_C {m a b : Tm} : ht (tC m a b) = 1 + max (ht m) (max (ht a) (ht b)) := rfl
theorem ht_le : ∀ t, isT t → 1 ≤ ht t ∧ ht t ≤ sz t := by
  apply tm_ind
  · intro k; exact ⟨Nat.le_refl _, Nat.le_refl _⟩
  · intro k; exact ⟨Nat.le_refl _, Nat.le_refl _⟩
  · intro o f a _ _ ih; rw [ht_U, sz_U]; omega
  · intro o a b _ _ _ ia ib; rw [ht_B, sz_B]; omega
  · intro m a b _ _ _ im ia ib; rw [ht_C, sz_C]; omega
/-- which hypotheses are used, as bits -/
def hun (acc : Int32) (o : Nat) (lb : Tm) : Int32 := if o = 1 then (match lb with
  | .arg k => acc ||| ((1 : Int32) <<< (nI k &&& 31))
  | _ => acc) else acc
def hu : Int32 → List (Nat × Tm) → Int32
  | acc, [] => acc
  | acc, nd :: l => hu (hun acc nd.1 nd.2) l
def tyS (tl : Nat → Fm) (n : Nat) : List Fm := (List.range' 0 n).map tl
/-- what size answers -/
def SzA (H : List (Nat × Fm)) (gf : Fm) (t : Tm) (x : Fm) (tl : Nat → Fm) (w : Nat) (v : Int32) : Prop := (w = 0 ∧ v = nI (sz t)) ∨ (w = 1 ∧ v = nI (ht t)) ∨ (w = 2 ∧ v = hu 0 (rws t)) ∨ (w = 3 ∧ ∃ n, v = nI n ∧ CntR (fun _ => False) (tyS tl (sz t)) n) ∨ (w = 4 ∧ ∃ n, v = nI n ∧ CntR (StF H x) (tyS tl (sz t)) n) ∨ (w = 5 ∧ ((x = gf ∧ v = 1) ∨ (x ≠ gf ∧ v = 0))) ∨ (w = 6 ∧ ((frx (rws t) (sz t) 0 = none ∧ v = 1) ∨ (frx (rws t) (sz t) 0 ≠ none ∧ v = 0)))
theorem SzA.fn {H : List (Nat × Fm)} {gf : Fm} {t : Tm} {x : Fm} {tl : Nat → Fm} {w : Nat} {v u : Int32} (h : SzA H gf t x tl w v) (k : SzA H gf t x tl w u) : v = u := by
  rcases h with ⟨a, b⟩ | ⟨a, b⟩ | ⟨a, b⟩ | ⟨a, n, b, d⟩ | ⟨a, n, b, d⟩ | ⟨a, ⟨d, b⟩ | ⟨d, b⟩⟩ | ⟨a, ⟨d, b⟩ | ⟨d, b⟩⟩
  all_goals
    rcases k with ⟨a', b'⟩ | ⟨a', b'⟩ | ⟨a', b'⟩ | ⟨a', n', b', d'⟩ | ⟨a', n', b', d'⟩ | ⟨a', ⟨d', b'⟩ | ⟨d', b'⟩⟩ | ⟨a', ⟨d', b'⟩ | ⟨d', b'⟩⟩
  all_goals first
    | (exfalso; omega)
    | (rw [b, b']; done)
    | (rw [b, b', CntR.fn d d']; done)
    | (exact absurd d d')
    | (exact absurd d' d)
section SZ8
variable {M M0 M1 : Mem} {tr c s k n : Nat} {P : Fm → Prop} {l : List (Nat × Tm)} {H : List (Nat × Fm)} {gf : Fm} {T : Nat → Option Tm}
noncomputable abbrev lpH (n m i : Nat) (M : Mem) : Option (Int32 × Mem) := lp (st_X3_height (n + 1)) (4, [.ref 40, .int (nI m), .int (nI i)], M)
theorem hg_step (hL : LtC M tr c l) {m i nn : Nat} (hi : i < l.length) (hm : m < 1000) (hn : nn < 1000) (e : M.2.2.1 45 i = nI nn) : lpH n m i M = lpH n (max m nn) (i + 1) M := by
  have hW := hL.1
  have hR := hL.2.2.2
  have hl := hR.2.1
  have hle : (nI l.length ≤ nI i) = False := eq_false (by rw [nI_le_ (by omega) (by omega)]; omega)
  have y := c_nestOf hW n (i := i) (by omega)
  rw [e] at y
  refine (ge_X3_height_4 (n + 1) 40 (nI m) (nI i) M).trans ?_
  unfold T_X3_height_4
  have hmx : (if nI m < nI nn then nI nn else nI m) = nI (max m nn) := by
    by_cases q : m < nn
    · rw [if_pos (by rw [nI_lt_ (by omega) (by omega)]; exact q), Nat.max_eq_right (by omega)]
    · rw [if_neg (by rw [nI_lt_ (by omega) (by omega)]; exact q), Nat.max_eq_left (by omega)]
  simp (disch := omega) only [↓gd_pos (fO40 hW), ↓bnd_of hL.2.1, ↓gd_pos (fOT hW hL.2.2.1), hR.1, hle, ↓reduceIte, ↓bnd2_of (show cal (n + 1) (fun zz => f_X3_nestOf zz 40 (nI i) M) = _ from y), ↓gd_pos (show 1 ≤ n + 1 by omega), hmx, nI_1]
theorem hg_main (hL : LtC M tr c l) : ∀ t, isT t → ∀ {p d r nn m : Nat} {pa : Int32} {A : Nat → Nat}, Ly M t p d pa r nn A → Sb l p t → 1 ≤ nn → nn + sz t ≤ 300 → m < 500 → lpH n m p M = lpH n (max m (nn - 1 + ht t)) (p + sz t) M := by
  apply tm_ind
  · intro k p d r nn m pa A hY hS h1 h2 hm
    have o3 := (opl_of hS.L).2.2
    rw [hg_step hL o3 (by omega) (by rw [sz_L] at h2; omega) hY.1.2.2.2]
    show _ = lpH n (max m (nn - 1 + 1)) (p + 1) M
    rw [show nn - 1 + 1 = nn by omega]
  · intro k p d r nn m pa A hY hS h1 h2 hm
    have o3 := (opl_of hS.H).2.2
    have hY : at2 M p d pa r nn := hY
    rw [hg_step hL o3 (by omega) (by rw [sz_H] at h2; omega) hY.2.2.2]
    show _ = lpH n (max m (nn - 1 + 1)) (p + 1) M
    rw [show nn - 1 + 1 = nn by omega]
  · intro o f a ho ha ih p d r nn m pa A hY hS h1 h2 hm
    have o3 := (opl_of hS.U.1).2.2
    have g := ht_le a ha
    rw [sz_U] at h2
    rw [hg_step hL o3 (by omega) (by omega) hY.1.2.2.2, ih hY.2 hS.U.2 (by omega) (by omega) (by omega), sz_U, ht_U]
    rw [show max (max m nn) (nn + 1 - 1 + ht a) = max m (nn - 1 + (1 + ht a)) by omega, show p + 1 + sz a = p + (sz a + 1) by omega]
  · intro o a b ho ha hb ia ib p d r nn m pa A hY hS h1 h2 hm
    have o3 := (opl_of hS.B.1).2.2
    have ga := ht_le a ha
    have gb := ht_le b hb
    rw [sz_B] at h2
    have hY : at2 M p d pa r nn ∧ Ly M a (p + 1) d (nI p) 0 (nn + 1) A ∧ Ly M b (p + 1 + sz a) d (nI p) 1 (nn + 1) A := hY
    rw [hg_step hL o3 (by omega) (by omega) hY.1.2.2.2, ia hY.2.1 hS.B.2.1 (by omega) (by omega) (by omega), ib hY.2.2 hS.B.2.2 (by omega) (by omega) (by omega), sz_B, ht_B]
    rw [show max (max (max m nn) (nn + 1 - 1 + ht a)) (nn + 1 - 1 + ht b) = max m (nn - 1 + (1 + max (ht a) (ht b))) by omega, show p + 1 + sz a + sz b = p + (sz a + sz b + 1) by omega]
  · intro u a b hu ha hb iu ia ib p d r nn m pa A hY hS h1 h2 hm
    have o3 := (opl_of hS.C.1).2.2
    have gu := ht_le u hu
    have ga := ht_le a ha
    have gb := ht_le b hb
    rw [sz_C] at h2
    obtain ⟨y1, y2, y3, y4⟩ := hY
    rw [hg_step hL o3 (by omega) (by omega) y1.2.2.2, iu y2 hS.C.2.1 (by omega) (by omega) (by omega), ia y3 hS.C.2.2.1 (by omega) (by omega) (by omega), ib y4 hS.C.2.2.2 (by omega) (by omega) (by omega), sz_C, ht_C]
    rw [show max (max (max (max m nn) (nn + 1 - 1 + ht u)) (nn + 1 - 1 + ht a)) (nn + 1 - 1 + ht b) = max m (nn - 1 + (1 + max (ht u) (max (ht a) (ht b)))) by omega, show p + 1 + sz u + sz a + sz b = p + (sz u + sz a + sz b + 1) by omega]
theorem c_height {t : Tm} (ht' : isT t) (hL : LtC M tr c (rws t)) {A : Nat → Nat} (hY : Ly M t 0 0 (-1) 0 1 A) : f_X3_height (n + 1) 40 M = some (nI (ht t), M) := by
  have hW := hL.1
  have hR := hL.2.2.2
  have h2 := hR.2.1
  rw [rws_len] at h2
  have g := ht_le t ht'
  refine (ge_X3_height_0 (n + 1) 40 M).trans ?_
  show lpH n 0 0 M = _
  rw [hg_main hL t ht' hY Sb.self (by omega) (by omega) (by omega), show max 0 (1 - 1 + ht t) = ht t by omega]
  refine (ge_X3_height_4 (n + 1) 40 (nI (ht t)) (nI (0 + sz t)) M).trans ?_
  unfold T_X3_height_4
  have hle : (nI (rws t).length ≤ nI (0 + sz t)) = True := eq_true (by rw [rws_len, nI_le_ (by omega) (by omega)]; omega)
  simp (disch := omega) only [↓gd_pos (fO40 hW), ↓bnd_of hL.2.1, ↓gd_pos (fOT hW hL.2.2.1), hR.1, hle, ↓reduceIte]
theorem hu_loop (hW : Wd M) (hT : TOb tr) (hR : RowC M tr c l) (hn : nmL l) : ∀ z i, i + z = l.length → ∀ acc, lp (st_X9_hypothesesUsed n) (4, [.ref tr, .int acc, .int (nI i)], M) = some (hu acc (l.drop i), M) := by
  have hl := hR.2.1
  have hO := fOT hW hT
  obtain ⟨-, t2, t3, t4, t5, t6, t7, t8⟩ := TO_at hW hT
  intro z
  induction z with
  | zero =>
    intro i hi acc
    refine (ge_X9_hypothesesUsed_4 n tr acc (nI i) M).trans ?_
    unfold T_X9_hypothesesUsed_4
    have hle : (nI l.length ≤ nI i) = True := eq_true (by rw [nI_le_ (by omega) (by omega)]; omega)
    simp (disch := omega) only [↓gd_pos hO, hR.1, hle, ↓reduceIte]
    rw [List.drop_of_length_le (by omega)]
    rfl
  | succ z ih =>
    intro i hi acc
    have hil : i < l.length := by omega
    have hle : (nI l.length ≤ nI i) = False := eq_false (by rw [nI_le_ (by omega) (by omega)]; omega)
    have h200 : ((200 : Int32) ≤ nI i) = False := eq_false (by rw [show (200 : Int32) = nI 200 from rfl, nI_le_ (by omega) (by omega)]; omega)
    obtain ⟨e1, e2⟩ := hR.2.2.2 i _ (opl_get hil)
    have hor := hR.2.2.1.at_ hil
    have e1 : M.2.2.1 (tr + 1) i = nI (opl l i) := e1
    have fA1 : fA M (tr + 1) 1 (nI i) := ⟨by rw [hW.1]; exact t7, 200, t4, vp_nI (by omega) (by omega)⟩
    have fA2 : fA M (tr + 2) 1 (nI i) := ⟨by rw [hW.1]; exact t8, 200, t5, vp_nI (by omega) (by omega)⟩
    rw [drop_c hil]
    show _ = some (hu (hun acc (opl l i) (lbl l i)) (l.drop (i + 1)), M)
    rw [← ih (i + 1) (by omega)]
    refine (ge_X9_hypothesesUsed_4 n tr acc (nI i) M).trans ?_
    unfold T_X9_hypothesesUsed_4
    obtain ⟨g, hg⟩ : ∃ g, g = M.2.2.1 (tr + 2) i := ⟨_, rfl⟩
    rw [← hg] at e2
    by_cases h1 : opl l i = 1
    · have hq : (nI (opl l i) = (1 : Int32)) = True := eq_true (by rw [h1]; rfl)
      have e2 : g = nv (lbl l i) := e2.1 h1
      rcases (hn _ (List.mem_of_getElem? (opl_get hil))).1 h1 with ⟨j, hj, hj2⟩ | ⟨j, hj, hj2⟩
      · have hj : lbl l i = .index j := hj
        have hge : ((0 : Int32) ≤ g) = True := eq_true (by rw [e2, hj, show nv (.index j) = nI j from rfl, show (0 : Int32) = nI 0 from rfl, nI_le_ (by omega) (by omega)]; omega)
        have hh : hun acc (opl l i) (lbl l i) = acc := by unfold hun; rw [if_pos h1, hj]
        rw [hh]
        simp (disch := omega) only [↓gd_pos hO, hR.1, hle, h200, ↓reduceIte, ↓bnd_of t2, ↓gd_pos fA1, nI_z, e1, hq, ↓bnd_of t3, ↓gd_pos fA2, ← hg, hge, nI_1]
      · have hj : lbl l i = .arg j := hj
        have hgk : g = -1 - nI j := by rw [e2, hj]; rfl
        have hge : ((0 : Int32) ≤ g) = False := eq_false (by rw [hgk]; exact Int32.not_le.mpr (hy_neg (by omega)))
        have hgi : -1 - g = nI j := by rw [hgk]; exact neg_n1 j
        obtain ⟨y, hy⟩ : ∃ y, y = -1 - g := ⟨_, rfl⟩
        have hh : hun acc (opl l i) (lbl l i) = acc ||| ((1 : Int32) <<< (y &&& 31)) := by unfold hun; rw [if_pos h1, hj, hy, hgi]
        rw [hh]
        clear hgk hgi e2 hh
        simp (disch := omega) only [↓gd_pos hO, hR.1, hle, h200, ↓reduceIte, ↓bnd_of t2, ↓gd_pos fA1, nI_z, e1, hq, ↓bnd_of t3, ↓gd_pos fA2, ← hg, hge, ← hy, nI_1]
    · have hq : (nI (opl l i) = (1 : Int32)) = False := eq_false (fun z => by have := (nI_eq (b := 1) (by omega) (by omega)).mp z; omega)
      have hh : hun acc (opl l i) (lbl l i) = acc := by unfold hun; rw [if_neg h1]
      rw [hh]
      simp (disch := omega) only [↓gd_pos hO, hR.1, hle, h200, ↓reduceIte, ↓bnd_of t2, ↓gd_pos fA1, nI_z, e1, hq, nI_1]
theorem c_hypothesesUsed (hW : Wd M) (hT : TOb tr) (hR : RowC M tr c l) (hn : nmL l) : f_X9_hypothesesUsed n tr M = some (hu 0 l, M) := (ge_X9_hypothesesUsed_0 n tr M).trans (hu_loop hW hT hR hn l.length 0 (by omega) 0)
/-- types are counted -/
theorem mt_loop {tl : Nat → Fm} {tr : Nat} {lr : List (Nat × Tm)} : ∀ z i m, i + z = lr.length → m + z ≤ 500 → ∀ (M : Mem) (P : Fm → Prop), LtC M tr c lr → TabC M c → MkS M c s P → (∀ i, i < lr.length → TyQ M c i (tl i)) → ∃ q M1, CntR P ((List.range' i z).map tl) q ∧ lp (st_X3_markTypes (n + 1)) (4, [.ref 40, .int (nI m), .int (nI i)], M) = some (nI (m + q), M1) ∧ Fr S28 M M1 ∧ ∃ P1, MkS M1 c s P1 := by
  intro z
  induction z with
  | zero =>
    intro i m hi hm M P hL hTb hS hty
    have hR := hL.2.2.2
    have hl := hR.2.1
    refine ⟨0, M, rfl, ?_, Fr.refl, P, hS⟩
    refine (ge_X3_markTypes_4 (n + 1) 40 (nI m) (nI i) M).trans ?_
    unfold T_X3_markTypes_4
    have hle : (nI lr.length ≤ nI i) = True := eq_true (by rw [nI_le_ (by omega) (by omega)]; omega)
    simp (disch := omega) only [↓gd_pos (fO40 hL.1), ↓bnd_of hL.2.1, ↓gd_pos (fOT hL.1 hL.2.2.1), hR.1, hle, ↓reduceIte]
    rfl
  | succ z ih =>
    intro i m hi hm M P hL hTb hS hty
    have hW := hL.1
    have hR := hL.2.2.2
    have hl := hR.2.1
    have hle : (nI lr.length ≤ nI i) = False := eq_false (by rw [nI_le_ (by omega) (by omega)]; omega)
    obtain ⟨v, v1, v2, v3⟩ := hty i (by omega)
    have y1 := c_typeOf hW n (i := i) (by omega)
    rw [v2] at y1
    obtain ⟨w, M1, y2, F1, S1, w1, w2⟩ := c_mark hW hTb hS n v1
    obtain ⟨T1, d1⟩ := hTb.s28 F1
    have L1 : LtC M1 tr c lr := hL.up F1 (fun a k q => by unfold S28 at q; omega) (fun i _ => d1 i) (Nat.le_refl _)
    have ty1 : ∀ i, i < lr.length → TyQ M1 c i (tl i) := fun i hi => (hty i hi).up (F1.int (by unfold S28; omega)) (fun i _ => d1 i) (Nat.le_refl _)
    rw [v3] at S1 w1 w2
    have go : ∀ m', (w = 0 → m' = m) → (w ≠ 0 → m' = m + 1) → lp (st_X3_markTypes (n + 1)) (4, [.ref 40, .int (nI m), .int (nI i)], M) = lp (st_X3_markTypes (n + 1)) (4, [.ref 40, .int (nI m'), .int (nI (i + 1))], M1) := by
      intro m' hm1 hm2
      refine (ge_X3_markTypes_4 (n + 1) 40 (nI m) (nI i) M).trans ?_
      unfold T_X3_markTypes_4
      by_cases h0 : w = 0
      · rw [hm1 h0]
        simp (disch := omega) only [↓gd_pos (fO40 hW), ↓bnd_of hL.2.1, ↓gd_pos (fOT hW hL.2.2.1), hR.1, hle, ↓reduceIte, ↓bnd_of (r_40_0 hW), ↓bnd2_of (show cal (n + 1) (fun zz => f_X3_typeOf zz 40 (nI i) M) = _ from y1), ↓gd_pos (fO_2 hW), ↓bnd2_of (show cal (n + 1) (fun zz => f_X1_mark zz 2 (nI v) M) = _ from y2), h0, nI_1]
      · rw [hm2 h0]
        simp (disch := omega) only [↓gd_pos (fO40 hW), ↓bnd_of hL.2.1, ↓gd_pos (fOT hW hL.2.2.1), hR.1, hle, ↓reduceIte, ↓bnd_of (r_40_0 hW), ↓bnd2_of (show cal (n + 1) (fun zz => f_X3_typeOf zz 40 (nI i) M) = _ from y1), ↓gd_pos (fO_2 hW), ↓bnd2_of (show cal (n + 1) (fun zz => f_X1_mark zz 2 (nI v) M) = _ from y2), h0, nI_1]
    rw [List.range'_succ, List.map_cons]
    by_cases hP : P (tl i)
    · obtain ⟨q, M2, q1, q2, q3, q4⟩ := ih (i + 1) m (by omega) (by omega) M1 _ L1 T1 S1 ty1
      refine ⟨q, M2, Or.inl ⟨hP, q1.iff (fun f _ => ⟨fun g => g.elim id (fun e => by rw [e]; exact hP), Or.inl⟩)⟩, ?_, F1.trans q3, q4⟩
      rw [go m (fun _ => rfl) (fun g => absurd (w1 hP) g), q2]
    · obtain ⟨q, M2, q1, q2, q3, q4⟩ := ih (i + 1) (m + 1) (by omega) (by omega) M1 _ L1 T1 S1 ty1
      refine ⟨q + 1, M2, Or.inr ⟨hP, q, rfl, q1⟩, ?_, F1.trans q3, q4⟩
      rw [go (m + 1) (fun g => by rw [w2 hP] at g; exact absurd g (by decide)) (fun _ => rfl), q2, show m + 1 + q = m + (q + 1) by omega]
end SZ8
