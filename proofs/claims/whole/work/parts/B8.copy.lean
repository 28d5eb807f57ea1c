/-! STEPS in the class: nodes are copied -/
def nmB (nd : Nat × Tm) : Prop := nd.1 = 1 → (∃ k, nd.2 = .index k ∧ k < 1000) ∨ ∃ k, nd.2 = .arg k ∧ k < 6
theorem scp_nm : ∀ t, isT t → ∀ {d : Nat}, scp t d → d + sz t ≤ 1000 → ∀ nd, nd ∈ rws t → nmB nd := by
  apply tm_ind
  · intro k d hs hd nd hn
    rw [rws_L, List.mem_singleton] at hn
    subst hn
    have : k < d := hs
    exact fun _ => Or.inl ⟨k, rfl, by omega⟩
  · intro k d hs hd nd hn
    rw [rws_H, List.mem_singleton] at hn
    subst hn
    exact fun _ => Or.inr ⟨k, rfl, hs⟩
  · intro o f a ho _ ih d hs hd nd hn
    have := ho.rng
    rw [sz_U] at hd
    have := amN_le o 0
    rw [rws_U, List.mem_cons] at hn
    rcases hn with rfl | hn
    · exact fun q => absurd (show o = 1 from q) (by omega)
    · exact ih hs (by omega) nd hn
  · intro o a b ho _ _ ia ib d hs hd nd hn
    rw [sz_B] at hd
    rw [rws_B, List.mem_cons, List.mem_append] at hn
    rcases hn with rfl | hn | hn
    · exact fun q => absurd (show o = 1 from q) (by omega)
    · exact ia hs.1 (by omega) nd hn
    · exact ib hs.2 (by omega) nd hn
  · intro m a b hm ha hb im ia ib d hs hd nd hn
    rw [sz_C] at hd
    have := sz_pos m hm
    rw [rws_C, List.mem_cons, List.mem_append, List.mem_append] at hn
    rcases hn with rfl | hn | hn | hn
    · exact fun q => absurd (show 9 = 1 from q) (by omega)
    · exact im hs.1 (by omega) nd hn
    · exact ia hs.2.1 (by omega) nd hn
    · exact ib hs.2.2 (by omega) nd hn
theorem fO_T {M : Mem} {tr : Nat} (hW : Wd M) (hT : TOb tr) : fO M tr 9 := ⟨by rw [hW.1]; exact (TO_at hW hT).2.2.2.2.2.1, (TO_at hW hT).1⟩
theorem fO_53 {M : Mem} (hW : Wd M) : fO M 53 7 := ⟨by rw [hW.1]; omega, s_53 hW⟩
section CPD
variable {c sr tg : Nat} {ls : List (Nat × Tm)}
noncomputable abbrev lpD (m sr e lv w i : Nat) (M : Mem) : Option (Unit × Mem) := lp (st_X7_copyDeeper (m + 1)) (3, [.ref 53, .ref sr, .int (nI e), .int (nI lv), .int (nI w), .int (nI i)], M)
/-- what copying wants: the rows it reads and writes -/
def CpS (M : Mem) (c sr tg : Nat) (ls l : List (Nat × Tm)) : Prop := Wd M ∧ TOb sr ∧ TOb tg ∧ sr ≠ tg ∧ RowC M sr c ls ∧ M.2.2.2.2 53 2 = some tg ∧ TgC M tg c l
theorem CpS.add {M M1 : Mem} {l l1 : List (Nat × Tm)} (h : CpS M c sr tg ls l) (hF : Fr (SO tg) M M1) (hG : TgC M1 tg c l1) : CpS M1 c sr tg ls l1 := by
  obtain ⟨hW, hs, ht, hne, hR, h2, -⟩ := h
  have q := fun a k (q : SO tg a k) => SO.sep ht hs (Ne.symm hne) q
  refine ⟨hF.Wd hW, hs, ht, hne, hR.mv (hF.int (fun x => (q _ _ x).1 rfl)) (hF.ints (fun k x => (q _ _ x).2.1 rfl)) (hF.ints (fun k x => (q _ _ x).2.2 rfl)) (fun i _ => ?_) (Nat.le_refl _), by rw [hF.2.2.1]; exact h2, hG⟩
  rw [dC_fq hF.q (fun k x => by have := x.not_low ht; omega) (fun k x => by have := x.not_low ht; omega) (fun k x => by have := x.not_low ht; omega)]
theorem cp_over {M : Mem} {l : List (Nat × Tm)} (h : CpS M c sr tg ls l) (hv : M.2.2.1 tg 3 = 1) (m : Nat) {e lv w i : Nat} (he : e ≤ 200) (hi : i ≤ e) : lpD m sr e lv w i M = some ((), M) := by
  obtain ⟨hW, hs, ht, hne, hR, h2, -⟩ := h
  refine (ge_X7_copyDeeper_3 (m + 1) 53 sr (nI e) (nI lv) (nI w) (nI i) M).trans ?_
  unfold T_X7_copyDeeper_3
  by_cases q : e ≤ i
  · simp (disch := omega) only [nI_le_, eq_true q, ↓reduceIte]
  · simp (disch := omega) only [nI_le_, eq_false q, ↓reduceIte, show (200 : Int32) = nI 200 from rfl, eq_false (show ¬ 200 ≤ i by omega), ↓gd_pos (fO_53 hW), ↓bnd_of h2, ↓gd_pos (fO_T hW ht), hv, show ((1 : Int32) = 0) = False from eq_false (by decide)]
theorem cp_57 {M : Mem} {l : List (Nat × Tm)} (h : CpS M c sr tg ls l) (m : Nat) {e lv w i : Nat} (hi : i < ls.length) {lb : Tm} {g : Int32} : (agC M c (opl ls i, lb) g → ∃ M1, lp (st_X7_copyDeeper (m + 1)) (57, [.ref 53, .ref sr, .int (nI e), .int (nI lv), .int (nI w), .int (nI i), .int g, .int 0], M) = lpD m sr e lv w (i + 1) M1 ∧ Fr (SO tg) M M1 ∧ TgC M1 tg c (l ++ [(opl ls i, lb)])) ∧ (agC M c (opl ls i, lb) (g + nI w) → ∃ M1, lp (st_X7_copyDeeper (m + 1)) (57, [.ref 53, .ref sr, .int (nI e), .int (nI lv), .int (nI w), .int (nI i), .int g, .int 1], M) = lpD m sr e lv w (i + 1) M1 ∧ Fr (SO tg) M M1 ∧ TgC M1 tg c (l ++ [(opl ls i, lb)])) := by
  obtain ⟨hW, hs, ht, hne, hR, h2, hG⟩ := h
  have eo := c_opAt hW hs hR m hi
  have ho := hR.2.2.1.at_ hi
  have hl := hR.2.1
  constructor
  · intro hg
    obtain ⟨M1, e1, F1, G1⟩ := c_add hW ht hG m ho.1 ho.2 hg
    refine ⟨M1, ?_, F1, G1⟩
    refine (ge_X7_copyDeeper_57 (m + 1) 53 sr (nI e) (nI lv) (nI w) (nI i) g 0 M).trans ?_
    unfold T_X7_copyDeeper_57
    simp (disch := omega) only [↓reduceIte, ↓gd_pos (fO_53 hW), ↓bnd_of h2, ↓gd_pos (fO_T hW hs), ↓gd_pos (fO_T hW ht), ↓bnd2_of (show cal (m + 1) (fun zz => f_X9_opAt zz sr (nI i) M) = _ from eo), ↓bnd2_of (show cal (m + 1) (fun zz => f_X9_add zz tg (nI (opl ls i)) g M) = _ from e1), nI_1]
  · intro hg
    obtain ⟨M1, e1, F1, G1⟩ := c_add hW ht hG m ho.1 ho.2 hg
    refine ⟨M1, ?_, F1, G1⟩
    refine (ge_X7_copyDeeper_57 (m + 1) 53 sr (nI e) (nI lv) (nI w) (nI i) g 1 M).trans ?_
    unfold T_X7_copyDeeper_57
    simp (disch := omega) only [↓reduceIte, show ((1 : Int32) = 0) = False from eq_false (by decide), ↓gd_pos (fO_53 hW), ↓bnd_of h2, ↓gd_pos (fO_T hW hs), ↓gd_pos (fO_T hW ht), ↓bnd2_of (show cal (m + 1) (fun zz => f_X9_opAt zz sr (nI i) M) = _ from eo), ↓bnd2_of (show cal (m + 1) (fun zz => f_X9_add zz tg (nI (opl ls i)) (g + nI w) M) = _ from e1), nI_1]
theorem cp_one {M : Mem} {l : List (Nat × Tm)} (h : CpS M c sr tg ls l) (m : Nat) {e lv w i : Nat} (he : e ≤ ls.length) (hi : i < e) (hlv : lv < 1000) (hw : w < 1000) (hn : nmB (opl ls i, lbl ls i)) : ∃ M1, lpD m sr e lv w i M = lpD m sr e lv w (i + 1) M1 ∧ Fr (SO tg) M M1 ∧ TgC M1 tg c (l ++ [lfn lv w (opl ls i, lbl ls i)]) := by
  have h0 := h
  obtain ⟨hW, hs, ht, hne, hR, h2, hG⟩ := h
  have hl := hR.2.1
  rcases hG with ⟨hv, hRt⟩ | ⟨hv, g2, g3⟩
  · have hlt : i < ls.length := by omega
    have ea := c_argAt hW hs hR m hlt
    have eo := c_opAt hW hs hR m hlt
    have hag := hR.ag hlt
    obtain ⟨o, ho⟩ : ∃ o, o = opl ls i := ⟨_, rfl⟩
    have hor := hR.2.2.1.at_ hlt
    obtain ⟨g, hg⟩ : ∃ g, g = M.2.2.1 (sr + 2) i := ⟨_, rfl⟩
    rw [← hg] at ea hag
    have st : ∀ x, (opl ls i = 1 → (g < nI lv → x = 0) ∧ (¬ g < nI lv → x = 1)) → (opl ls i ≠ 1 → x = 0) → lpD m sr e lv w i M = lp (st_X7_copyDeeper (m + 1)) (57, [.ref 53, .ref sr, .int (nI e), .int (nI lv), .int (nI w), .int (nI i), .int g, .int x], M) := by
      intro x hx1 hx2
      refine (ge_X7_copyDeeper_3 (m + 1) 53 sr (nI e) (nI lv) (nI w) (nI i) M).trans ?_
      unfold T_X7_copyDeeper_3
      simp (disch := omega) only [nI_le_, eq_false (show ¬ e ≤ i by omega), ↓reduceIte, show (200 : Int32) = nI 200 from rfl, eq_false (show ¬ 200 ≤ i by omega), ↓gd_pos (fO_53 hW), ↓bnd_of h2, ↓gd_pos (fO_T hW ht), hv, ↓gd_pos (fO_T hW hs), ↓bnd2_of (show cal (m + 1) (fun zz => f_X9_argAt zz sr (nI i) M) = _ from ea), ↓bnd2_of (show cal (m + 1) (fun zz => f_X9_opAt zz sr (nI i) M) = _ from eo)]
      by_cases q : opl ls i = 1
      · rw [if_pos (by rw [q]; rfl)]
        by_cases r : g < nI lv
        · rw [if_pos r, (hx1 q).1 r]
        · rw [if_neg r, (hx1 q).2 r]
      · have : ¬ nI (opl ls i) = 1 := fun z => q ((nI_eq (b := 1) (by omega) (by omega)).mp z)
        rw [if_neg this, hx2 q]
    by_cases q : opl ls i = 1
    · have hgn : g = nv (lbl ls i) := hag.1 q
      have hl1 : lfn lv w (opl ls i, lbl ls i) = (opl ls i, lfl lv w (lbl ls i)) := by rw [q]; rfl
      rcases hn q with ⟨k, hk, hk2⟩ | ⟨k, hk, hk2⟩
      · have hk : lbl ls i = .index k := hk
        rw [hk] at hgn hl1
        have hgk : g = nI k := hgn
        by_cases r : k < lv
        · have hll : lfl lv w (.index k) = .index k := if_neg (by omega)
          rw [hll] at hl1
          rw [hk, hl1]
          have := (cp_57 h0 m (e := e) (lv := lv) (w := w) hlt (lb := .index k) (g := g)).1 ⟨fun _ => hgn, fun z => by rw [show (opl ls i, (Jvm.Term.index k : Tm)).1 = 1 from q] at z; unfold tf at z; omega, fun z => absurd q z⟩
          rw [← st 0 (fun _ => ⟨fun _ => rfl, fun z => absurd ((nI_ltI (by omega) (by omega)).mpr r) (by rw [hgk] at z; exact z)⟩) (fun _ => rfl)] at this
          exact this
        · have hll : lfl lv w (.index k) = .index (k + w) := if_pos (by omega)
          rw [hll] at hl1
          rw [hk, hl1]
          have := (cp_57 h0 m (e := e) (lv := lv) (w := w) hlt (lb := .index (k + w)) (g := g)).2 ⟨fun _ => by rw [hgk]; simp (disch := omega) only [nI_add]; rfl, fun z => by rw [show (opl ls i, (Jvm.Term.index (k + w) : Tm)).1 = 1 from q] at z; unfold tf at z; omega, fun z => absurd q z⟩
          rw [← st 1 (fun _ => ⟨fun z => absurd ((nI_ltI (by omega) (by omega)).mp (by rw [hgk] at z; exact z)) r, fun _ => rfl⟩) (fun z => absurd q z)] at this
          exact this
      · have hk : lbl ls i = .arg k := hk
        rw [hk] at hgn hl1
        have hgk : g = -1 - nI k := hgn
        rw [show lfl lv w (.arg k) = .arg k from rfl] at hl1
        rw [hk, hl1]
        have hlt0 : g < nI lv := by
          rw [hgk, Int32.lt_iff_toInt_lt, hy_toInt (by omega), nI_toInt (by omega)]
          omega
        have := (cp_57 h0 m (e := e) (lv := lv) (w := w) hlt (lb := .arg k) (g := g)).1 ⟨fun _ => hgn, fun z => by rw [show (opl ls i, (Jvm.Term.arg k : Tm)).1 = 1 from q] at z; unfold tf at z; omega, fun z => absurd q z⟩
        rw [← st 0 (fun _ => ⟨fun _ => rfl, fun z => absurd hlt0 z⟩) (fun _ => rfl)] at this
        exact this
    · rw [lfn_n q]
      have := (cp_57 h0 m (e := e) (lv := lv) (w := w) hlt (lb := lbl ls i) (g := g)).1 hag
      rw [← st 0 (fun z => absurd z q) (fun _ => rfl)] at this
      exact this
  · refine ⟨M, ?_, Fr.refl, Or.inr ⟨hv, g2, by rw [List.length_append]; omega⟩⟩
    rw [cp_over h0 hv m (by omega) (by omega), cp_over h0 hv m (by omega) (by omega)]
theorem cp_loop (hn : ∀ nd, nd ∈ ls → nmB nd) (m : Nat) {e lv w : Nat} (he : e ≤ ls.length) (hlv : lv < 1000) (hw : w < 1000) : ∀ z i, i + z = e → ∀ {M : Mem} {l : List (Nat × Tm)}, CpS M c sr tg ls l → ∃ M1, lpD m sr e lv w i M = some ((), M1) ∧ Fr (SO tg) M M1 ∧ TgC M1 tg c (l ++ ((ls.drop i).take z).map (lfn lv w)) := by
  intro z
  induction z with
  | zero =>
    intro i hi M l h
    refine ⟨M, ?_, Fr.refl, by simpa using h.2.2.2.2.2.2⟩
    have hl := h.2.2.2.2.1.2.1
    refine (ge_X7_copyDeeper_3 (m + 1) 53 sr (nI e) (nI lv) (nI w) (nI i) M).trans ?_
    unfold T_X7_copyDeeper_3
    simp (disch := omega) only [nI_le_, eq_true (show e ≤ i by omega), ↓reduceIte]
  | succ z ih =>
    intro i hi M l h
    have hlt : i < ls.length := by omega
    obtain ⟨M1, e1, F1, G1⟩ := cp_one h m he (by omega) hlv hw (hn _ (List.mem_of_getElem? (opl_get hlt)))
    obtain ⟨M2, e2, F2, G2⟩ := ih (i + 1) (by omega) (h.add F1 G1)
    refine ⟨M2, e1.trans e2, F1.trans F2, ?_⟩
    have hd : ls.drop i = (opl ls i, lbl ls i) :: ls.drop (i + 1) := by
      rw [List.drop_eq_getElem_cons hlt]
      have := opl_get hlt
      rw [List.getElem?_eq_getElem hlt] at this
      rw [Option.some.inj this]
    rw [hd, List.take_succ_cons, List.map_cons]
    rw [List.append_assoc, List.singleton_append] at G2
    exact G2
theorem c_copyDeeper (hn : ∀ nd, nd ∈ ls → nmB nd) (m : Nat) {i e lv w : Nat} (he : e ≤ ls.length) (hi : i ≤ e) (hlv : lv < 1000) (hw : w < 1000) {M : Mem} {l : List (Nat × Tm)} (h : CpS M c sr tg ls l) : ∃ M1, f_X7_copyDeeper (m + 1) 53 sr (nI i) (nI e) (nI lv) (nI w) M = some ((), M1) ∧ Fr (SO tg) M M1 ∧ TgC M1 tg c (l ++ ((ls.drop i).take (e - i)).map (lfn lv w)) := by
  obtain ⟨M1, e1, F1, G1⟩ := cp_loop hn m he hlv hw (e - i) i (by omega) h
  exact ⟨M1, ((ge_X7_copyDeeper_0 (m + 1) 53 sr (nI i) (nI e) (nI lv) (nI w) M).trans rfl).trans e1, F1, G1⟩
/-- a term that stands in the row is copied -/
theorem seg_sb {t : Tm} {i : Nat} (h : Sb ls i t) : (ls.drop i).take (sz t) = rws t := by
  obtain ⟨x, y, rfl, hx⟩ := h
  rw [← hx, List.drop_append_of_le_length (Nat.le_refl _), List.drop_length, List.nil_append]
  exact List.take_append_of_le_length (Nat.le_refl _) |>.trans (List.take_length ..)
theorem lfn_00 (nd : Nat × Tm) : lfn 0 0 nd = nd := by
  obtain ⟨o, f⟩ := nd
  by_cases h : o = 1
  · subst h
    rw [lfn_1]
    cases f with
    | index k => rfl
    | _ => rfl
  · exact lfn_n h
theorem map_00 (l : List (Nat × Tm)) : l.map (lfn 0 0) = l := by
  rw [show lfn 0 0 = id from funext lfn_00, List.map_id]
end CPD
