/-! STEPS in the class: a term put for a name -/
section PTF
variable {c sr tg : Nat} {ls : List (Nat × Tm)}
theorem c_isName {M : Mem} (hW : Wd M) (hT : TOb sr) (hR : RowC M sr c ls) (k : Nat) {i : Nat} (hi : i < ls.length) (x : Int32) : (opl ls i = 1 → M.2.2.1 (sr + 2) i = x → f_X9_isName (k + 1) sr (nI i) x M = some (1, M)) ∧ (¬ (opl ls i = 1 ∧ M.2.2.1 (sr + 2) i = x) → f_X9_isName (k + 1) sr (nI i) x M = some (0, M)) := by
  have eo := c_opAt hW hT hR k hi
  have ea := c_argAt hW hT hR k hi
  have hor := hR.2.2.1.at_ hi
  unfold f_X9_isName b_X9_isName T_X9_isName_0
  simp (disch := omega) only [↓gd_pos (fO_T hW hT), ↓bnd2_of (show cal (k + 1) (fun zz => f_X9_opAt zz sr (nI i) M) = _ from eo), ↓bnd2_of (show cal (k + 1) (fun zz => f_X9_argAt zz sr (nI i) M) = _ from ea)]
  constructor
  · intro h1 h2
    rw [if_pos (by rw [h1]; rfl), if_pos h2]
  · intro h
    by_cases q : opl ls i = 1
    · rw [if_pos (by rw [q]; rfl), if_neg (fun z => h ⟨q, z⟩)]
    · rw [if_neg (show ¬ nI (opl ls i) = 1 from fun z => q ((nI_eq (b := 1) (by omega) (by omega)).mp z))]
noncomputable abbrev lpPf (m sp se lv e i : Nat) (M : Mem) : Option (Unit × Mem) := lp (st_X7_putFor (m + 2)) (23, [.ref 53, .int (nI sp), .int (nI se), .int (nI lv), .int (nI e), .int (nI i)], M)
def PtS (M : Mem) (c sr tg : Nat) (ls l : List (Nat × Tm)) : Prop := CpS M c sr tg ls l ∧ M.2.2.2.2 53 1 = some sr
theorem PtS.add {M M1 : Mem} {l l1 : List (Nat × Tm)} (h : PtS M c sr tg ls l) (hF : Fr (SO tg) M M1) (hG : TgC M1 tg c l1) : PtS M1 c sr tg ls l1 := ⟨h.1.add hF hG, by rw [hF.2.2.1]; exact h.2⟩
theorem SO.n42 {a k : Nat} (hT : TOb tg) (h : SO tg a k) : a < 41 ∨ 50 ≤ a := by
  unfold TOb at hT
  unfold SO at h
  omega
theorem pt_over {M : Mem} {l : List (Nat × Tm)} (h : PtS M c sr tg ls l) (hv : M.2.2.1 tg 3 = 1) (m : Nat) {sp se e lv i : Nat} (he : e ≤ 200) (hi : i ≤ e) : lpPf m sp se lv e i M = some ((), M) := by
  obtain ⟨⟨hW, hs, ht, hne, hR, h2, -⟩, h1⟩ := h
  refine (ge_X7_putFor_23 (m + 2) 53 (nI sp) (nI se) (nI lv) (nI e) (nI i) M).trans ?_
  unfold T_X7_putFor_23
  by_cases q : e ≤ i
  · simp (disch := omega) only [nI_le_, eq_true q, ↓reduceIte]
  · simp (disch := omega) only [nI_le_, eq_false q, ↓reduceIte, show (200 : Int32) = nI 200 from rfl, eq_false (show ¬ 200 ≤ i by omega), ↓gd_pos (fO_53 hW), ↓bnd_of h2, ↓gd_pos (fO_T hW ht), hv, show ((1 : Int32) = 0) = False from eq_false (by decide)]
theorem pt_128 {M : Mem} {l : List (Nat × Tm)} (h : PtS M c sr tg ls l) (m : Nat) {sp se e lv i : Nat} (hi : i < ls.length) {lb : Tm} {g : Int32} : (agC M c (opl ls i, lb) g → ∃ M1, lp (st_X7_putFor (m + 2)) (128, [.ref 53, .int (nI sp), .int (nI se), .int (nI lv), .int (nI e), .int (nI i), .int g, .int 0], M) = lpPf m sp se lv e (i + 1) M1 ∧ Fr (SO tg) M M1 ∧ TgC M1 tg c (l ++ [(opl ls i, lb)])) ∧ (agC M c (opl ls i, lb) (g - 1) → ∃ M1, lp (st_X7_putFor (m + 2)) (128, [.ref 53, .int (nI sp), .int (nI se), .int (nI lv), .int (nI e), .int (nI i), .int g, .int 1], M) = lpPf m sp se lv e (i + 1) M1 ∧ Fr (SO tg) M M1 ∧ TgC M1 tg c (l ++ [(opl ls i, lb)])) := by
  obtain ⟨⟨hW, hs, ht, hne, hR, h2, hG⟩, h1⟩ := h
  obtain ⟨q, hq⟩ : ∃ q, q = m + 1 := ⟨_, rfl⟩
  unfold lpPf
  rw [show m + 2 = q + 1 by omega]
  have eo := c_opAt hW hs hR q hi
  have ho := hR.2.2.1.at_ hi
  have hl := hR.2.1
  constructor
  · intro hg
    obtain ⟨M1, e1, F1, G1⟩ := c_add hW ht hG q ho.1 ho.2 hg
    refine ⟨M1, ?_, F1, G1⟩
    refine (ge_X7_putFor_128 (q + 1) 53 (nI sp) (nI se) (nI lv) (nI e) (nI i) g 0 M).trans ?_
    unfold T_X7_putFor_128
    simp (disch := omega) only [↓reduceIte, ↓gd_pos (fO_53 hW), ↓bnd_of h2, ↓bnd_of h1, ↓gd_pos (fO_T hW hs), ↓gd_pos (fO_T hW ht), ↓bnd2_of (show cal (q + 1) (fun zz => f_X9_opAt zz sr (nI i) M) = _ from eo), ↓bnd2_of (show cal (q + 1) (fun zz => f_X9_add zz tg (nI (opl ls i)) g M) = _ from e1), nI_1]
  · intro hg
    obtain ⟨M1, e1, F1, G1⟩ := c_add hW ht hG q ho.1 ho.2 hg
    refine ⟨M1, ?_, F1, G1⟩
    refine (ge_X7_putFor_128 (q + 1) 53 (nI sp) (nI se) (nI lv) (nI e) (nI i) g 1 M).trans ?_
    unfold T_X7_putFor_128
    simp (disch := omega) only [↓reduceIte, show ((1 : Int32) = 0) = False from eq_false (by decide), ↓gd_pos (fO_53 hW), ↓bnd_of h2, ↓bnd_of h1, ↓gd_pos (fO_T hW hs), ↓gd_pos (fO_T hW ht), ↓bnd2_of (show cal (q + 1) (fun zz => f_X9_opAt zz sr (nI i) M) = _ from eo), ↓bnd2_of (show cal (q + 1) (fun zz => f_X9_add zz tg (nI (opl ls i)) (g - 1) M) = _ from e1), nI_1]
def dcl (lv : Nat) : Tm → Tm
  | .index k => if lv < k then .index (k - 1) else .index k
  | t => t
/-- a node that isn't the name -/
theorem pt_A {M : Mem} {l : List (Nat × Tm)} (h : PtS M c sr tg ls l) (m : Nat) {sp se e lv i : Nat} (he : e ≤ ls.length) (hi : i < e) (hlv : lv < 1000) (hn : nmB (opl ls i, lbl ls i)) (hne : ¬ (opl ls i = 1 ∧ lbl ls i = .index lv)) : ∃ M1, lpPf m sp se lv e i M = lpPf m sp se lv e (i + 1) M1 ∧ Fr (SO tg) M M1 ∧ TgC M1 tg c (l ++ [if opl ls i = 1 then (1, dcl lv (lbl ls i)) else (opl ls i, lbl ls i)]) := by
  have h0 := h
  obtain ⟨⟨hW, hs, ht, hst, hR, h2, hG⟩, h1⟩ := h
  have hl := hR.2.1
  rcases hG with ⟨hv, hRt⟩ | ⟨hv, g2, g3⟩
  · have hlt : i < ls.length := by omega
    obtain ⟨q, hq⟩ : ∃ q, q = m + 1 := ⟨_, rfl⟩
    have ea := c_argAt hW hs hR q hlt
    have eo := c_opAt hW hs hR q hlt
    have hag := hR.ag hlt
    have hor := hR.2.2.1.at_ hlt
    have hnn : ¬ (opl ls i = 1 ∧ M.2.2.1 (sr + 2) i = nI lv) := fun z => hne ⟨z.1, by
      have hgn : M.2.2.1 (sr + 2) i = nv (lbl ls i) := hag.1 z.1
      rcases hn z.1 with ⟨k, hk, hk2⟩ | ⟨k, hk, hk2⟩
      · have hk : lbl ls i = .index k := hk
        rw [hk] at hgn ⊢
        rw [z.2] at hgn
        have := (nI_eq (by omega) (by omega)).mp (show nI lv = nI k from hgn)
        rw [this]
      · have hk : lbl ls i = .arg k := hk
        rw [hk] at hgn
        rw [z.2] at hgn
        have hgn : nI lv = -1 - nI k := hgn
        have := congrArg Int32.toInt hgn
        rw [hy_toInt (by omega), nI_toInt (by omega)] at this
        omega⟩
    have ein := (c_isName hW hs hR m hlt (nI lv)).2 hnn
    rw [show m + 1 = q by omega] at ein
    obtain ⟨g, hg⟩ : ∃ g, g = M.2.2.1 (sr + 2) i := ⟨_, rfl⟩
    rw [← hg] at ea hag
    have st : ∀ x, (opl ls i = 1 → (g ≤ nI lv → x = 0) ∧ (¬ g ≤ nI lv → x = 1)) → (opl ls i ≠ 1 → x = 0) → lpPf m sp se lv e i M = lp (st_X7_putFor (m + 2)) (128, [.ref 53, .int (nI sp), .int (nI se), .int (nI lv), .int (nI e), .int (nI i), .int g, .int x], M) := by
      intro x hx1 hx2
      unfold lpPf
      rw [show m + 2 = q + 1 by omega]
      refine (ge_X7_putFor_23 (q + 1) 53 (nI sp) (nI se) (nI lv) (nI e) (nI i) M).trans ?_
      unfold T_X7_putFor_23
      simp (disch := omega) only [nI_le_, eq_false (show ¬ e ≤ i by omega), ↓reduceIte, show (200 : Int32) = nI 200 from rfl, eq_false (show ¬ 200 ≤ i by omega), ↓gd_pos (fO_53 hW), ↓bnd_of h2, ↓bnd_of h1, ↓gd_pos (fO_T hW ht), hv, ↓gd_pos (fO_T hW hs), ↓bnd2_of (show cal (q + 1) (fun zz => f_X9_argAt zz sr (nI i) M) = _ from ea), ↓bnd2_of (show cal (q + 1) (fun zz => f_X9_isName zz sr (nI i) (nI lv) M) = _ from ein), ↓bnd2_of (show cal (q + 1) (fun zz => f_X9_opAt zz sr (nI i) M) = _ from eo)]
      by_cases z : opl ls i = 1
      · rw [if_pos (by rw [z]; rfl)]
        by_cases r : g ≤ nI lv
        · rw [if_pos r, (hx1 z).1 r]
        · rw [if_neg r, (hx1 z).2 r]
      · rw [if_neg (show ¬ nI (opl ls i) = 1 from fun y => z ((nI_eq (b := 1) (by omega) (by omega)).mp y)), hx2 z]
    by_cases z : opl ls i = 1
    · rw [if_pos z]
      have hgn : g = nv (lbl ls i) := hag.1 z
      have ntf : ∀ f : Tm, ¬ tf (opl ls i, f).1 := fun f y => by rw [show (opl ls i, f).1 = 1 from z] at y; unfold tf at y; omega
      rcases hn z with ⟨k, hk, hk2⟩ | ⟨k, hk, hk2⟩
      · have hk : lbl ls i = .index k := hk
        rw [hk] at hgn ⊢
        have hgk : g = nI k := hgn
        have hkl : k ≠ lv := fun y => hne ⟨z, by rw [hk, y]⟩
        by_cases r : k < lv
        · rw [show dcl lv (.index k) = .index k from if_neg (by omega)]
          have := (pt_128 h0 m (sp := sp) (se := se) (e := e) (lv := lv) hlt (lb := .index k) (g := g)).1 ⟨fun _ => hgn, fun y => (ntf _ y).elim, fun y => absurd z y⟩
          rw [← st 0 (fun _ => ⟨fun _ => rfl, fun y => absurd ((nI_leI (by omega) (by omega)).mpr (show k ≤ lv by omega)) (by rw [hgk] at y; exact y)⟩) (fun _ => rfl), z] at this
          exact this
        · rw [show dcl lv (.index k) = .index (k - 1) from if_pos (by omega)]
          have e1 : g - 1 = nI (k - 1) := by
            rw [hgk]
            obtain ⟨j, rfl⟩ : ∃ j, k = j + 1 := ⟨k - 1, by omega⟩
            exact pm_sub (j + 1)
          have := (pt_128 h0 m (sp := sp) (se := se) (e := e) (lv := lv) hlt (lb := .index (k - 1)) (g := g)).2 ⟨fun _ => e1, fun y => (ntf _ y).elim, fun y => absurd z y⟩
          rw [← st 1 (fun _ => ⟨fun y => absurd ((nI_leI (by omega) (by omega)).mp (by rw [hgk] at y; exact y)) (show ¬ k ≤ lv by omega), fun _ => rfl⟩) (fun y => absurd z y), z] at this
          exact this
      · have hk : lbl ls i = .arg k := hk
        rw [hk] at hgn ⊢
        have hgk : g = -1 - nI k := hgn
        have hle : g ≤ nI lv := by
          rw [hgk, Int32.le_iff_toInt_le, hy_toInt (by omega), nI_toInt (by omega)]
          omega
        have := (pt_128 h0 m (sp := sp) (se := se) (e := e) (lv := lv) hlt (lb := .arg k) (g := g)).1 ⟨fun _ => hgn, fun y => (ntf _ y).elim, fun y => absurd z y⟩
        rw [← st 0 (fun _ => ⟨fun _ => rfl, fun y => absurd hle y⟩) (fun _ => rfl), z] at this
        exact this
    · rw [if_neg z]
      have := (pt_128 h0 m (sp := sp) (se := se) (e := e) (lv := lv) hlt (lb := lbl ls i) (g := g)).1 hag
      rw [← st 0 (fun y => absurd y z) (fun _ => rfl)] at this
      exact this
  · refine ⟨M, ?_, Fr.refl, Or.inr ⟨hv, g2, by rw [List.length_append]; omega⟩⟩
    rw [pt_over h0 hv m (by omega) (by omega), pt_over h0 hv m (by omega) (by omega)]
/-- and one that is -/
theorem pt_B {M : Mem} {l : List (Nat × Tm)} (h : PtS M c sr tg ls l) (hnm : ∀ nd, nd ∈ ls → nmB nd) (m : Nat) {sp e lv i d : Nat} {s : Tm} (hs0 : isT s) (hsp : Sb ls sp s) (he : e ≤ ls.length) (hi : i < e) (hd : lv < d) (hd4 : d < 1000) (h42 : M.2.2.1 42 i = nI d) (hop : opl ls i = 1) (hlb : lbl ls i = .index lv) : ∃ M1, lpPf m sp (sp + sz s) lv e i M = lpPf m sp (sp + sz s) lv e (i + 1) M1 ∧ Fr (SO tg) M M1 ∧ TgC M1 tg c (l ++ rws (lft lv (d - 1 - lv) s)) := by
  have h0 := h
  obtain ⟨⟨hW, hs, ht, hst, hR, h2, hG⟩, h1⟩ := h
  have hl := hR.2.1
  have hle := hsp.le
  rcases hG with ⟨hv, hRt⟩ | ⟨hv, g2, g3⟩
  · have hlt : i < ls.length := by omega
    obtain ⟨q, hq⟩ : ∃ q, q = m + 1 := ⟨_, rfl⟩
    have ea := c_argAt hW hs hR q hlt
    have hgn : M.2.2.1 (sr + 2) i = nI lv := by
      have := (hR.ag hlt).1 hop
      rw [show (opl ls i, lbl ls i).2 = .index lv from hlb] at this
      exact this
    have ein := (c_isName hW hs hR m hlt (nI lv)).1 hop hgn
    rw [show m + 1 = q by omega] at ein
    have ed := c_depthOf hW q (i := i) (by omega)
    rw [h42] at ed
    obtain ⟨M1, e1, F1, G1⟩ := c_copyDeeper hnm m (i := sp) (e := sp + sz s) (lv := lv) (w := d - 1 - lv) hle (by omega) (by omega) (by omega) h0.1
    rw [show m + 1 = q by omega] at e1
    rw [show sp + sz s - sp = sz s by omega, seg_sb hsp, ← rws_lft s hs0] at G1
    refine ⟨M1, ?_, F1, G1⟩
    have ex : nI d - 1 - nI lv = nI (d - 1 - lv) := by
      obtain ⟨j, rfl⟩ : ∃ j, d = lv + j + 1 := ⟨d - 1 - lv, by omega⟩
      rw [show nI (lv + j + 1) - 1 = nI (lv + j) from pm_sub (lv + j + 1), nI_sb (by omega), show lv + j + 1 - 1 - lv = j by omega]
    unfold lpPf
    rw [show m + 2 = q + 1 by omega]
    refine (ge_X7_putFor_23 (q + 1) 53 (nI sp) (nI (sp + sz s)) (nI lv) (nI e) (nI i) M).trans ?_
    unfold T_X7_putFor_23
    simp (disch := omega) only [nI_le_, eq_false (show ¬ e ≤ i by omega), ↓reduceIte, show (200 : Int32) = nI 200 from rfl, eq_false (show ¬ 200 ≤ i by omega), ↓gd_pos (fO_53 hW), ↓bnd_of h2, ↓bnd_of h1, ↓bnd_of (r_53_0 hW), ↓gd_pos (fO_T hW ht), ↓gd_pos (fO_40 hW), hv, ↓gd_pos (fO_T hW hs), ↓bnd2_of (show cal (q + 1) (fun zz => f_X9_argAt zz sr (nI i) M) = _ from ea), ↓bnd2_of (show cal (q + 1) (fun zz => f_X9_isName zz sr (nI i) (nI lv) M) = _ from ein), show ((1 : Int32) = 0) = False from eq_false (by decide), ↓bnd2_of (show cal (q + 1) (fun zz => f_X3_depthOf zz 40 (nI i) M) = _ from ed), ex, ↓bnd2_of (show cal (q + 1) (fun zz => f_X7_copyDeeper zz 53 sr (nI sp) (nI (sp + sz s)) (nI lv) (nI (d - 1 - lv)) M) = _ from e1), nI_1]
  · refine ⟨M, ?_, Fr.refl, Or.inr ⟨hv, g2, by rw [List.length_append]; omega⟩⟩
    rw [pt_over h0 hv m (by omega) (by omega), pt_over h0 hv m (by omega) (by omega)]
theorem pt_tree (hnm : ∀ nd, nd ∈ ls → nmB nd) (m : Nat) {sp e lv : Nat} {s : Tm} (hs0 : isT s) (hsp : Sb ls sp s) (he : e ≤ ls.length) : ∀ t, isT t → ∀ {p d : Nat} {M : Mem} {l : List (Nat × Tm)} {pa : Int32} {r n : Nat} {A : Nat → Nat}, Sb ls p t → p + sz t ≤ e → Ly M t p d pa r n A → lv < d → d + sz t < 1000 → PtS M c sr tg ls l → ∃ M1, lpPf m sp (sp + sz s) lv e p M = lpPf m sp (sp + sz s) lv e (p + sz t) M1 ∧ Fr (SO tg) M M1 ∧ TgC M1 tg c (l ++ rws (sbs lv s t d)) := by
  have at_ : ∀ {p : Nat} {nd : Nat × Tm}, ls[p]? = some nd → nmB (opl ls p, lbl ls p) := fun h => hnm _ (List.mem_of_getElem? (opl_get (opl_of h).2.2))
  have ly : ∀ {M M1 : Mem} {l : List (Nat × Tm)}, PtS M c sr tg ls l → Fr (SO tg) M M1 → ∀ t, isT t → ∀ {p d : Nat} {pa : Int32} {r n : Nat} {A : Nat → Nat}, Ly M t p d pa r n A → Ly M1 t p d pa r n A := fun h F t ht _ _ _ _ _ _ g => g.congr t ht (fun a i h1 h2 _ _ => F.int (fun q => by have := SO.n42 h.1.2.2.1 q; omega))
  apply tm_ind
  · intro k p d M l pa r n A hS hpe hL hd hd4 h
    obtain ⟨g1, g2, g3⟩ := opl_of hS.L
    rw [sz_L] at hpe hd4 ⊢
    rw [sbs_L]
    by_cases e1 : k = lv
    · rw [if_pos e1]
      exact pt_B h hnm m hs0 hsp he (by omega) hd (by omega) hL.1.1 g1 (by rw [g2, e1])
    · rw [if_neg e1]
      have := pt_A h m (sp := sp) (se := sp + sz s) he (show p < e by omega) (lv := lv) (by omega) (at_ hS.L) (fun q => e1 (by have := q.2; rw [g2] at this; cases this; rfl))
      rw [if_pos g1, g2] at this
      have e2 : rws (if lv < k then tL (k - 1) else tL k) = [(1, dcl lv (.index k))] := by
        show _ = [(1, if lv < k then tL (k - 1) else tL k)]
        split <;> rfl
      rw [e2]
      exact this
  · intro k p d M l pa r n A hS hpe hL hd hd4 h
    obtain ⟨g1, g2, g3⟩ := opl_of hS.H
    rw [sz_H] at hpe hd4 ⊢
    rw [sbs_H]
    have := pt_A h m (sp := sp) (se := sp + sz s) he (show p < e by omega) (lv := lv) (by omega) (at_ hS.H) (fun q => by have := q.2; rw [g2] at this; cases this)
    rw [if_pos g1, g2] at this
    exact this
  · intro o f a ho ha ih p d M l pa r n A hS hpe hL hd hd4 h
    obtain ⟨hS1, hS2⟩ := hS.U
    obtain ⟨g1, g2, g3⟩ := opl_of hS1
    have hr := ho.rng
    have h1o : opl ls p ≠ 1 := by rw [g1]; show o ≠ 1; omega
    rw [sz_U] at hpe hd4 ⊢
    rw [sbs_U, rws_U]
    obtain ⟨M1, e1, F1, G1⟩ := pt_A h m (sp := sp) (se := sp + sz s) he (show p < e by omega) (lv := lv) (by omega) (at_ hS1) (fun q => h1o q.1)
    rw [if_neg h1o, g1, g2] at G1
    have am := amN_le o 0
    obtain ⟨M2, e2, F2, G2⟩ := ih (d := d + amN o 0) hS2 (by omega) (ly h F1 a ha hL.2) (by omega) (by omega) (h.add F1 G1)
    refine ⟨M2, ?_, F1.trans F2, ?_⟩
    · rw [show p + (sz a + 1) = p + 1 + sz a by omega]
      exact e1.trans e2
    · rw [List.append_assoc, List.singleton_append] at G2
      exact G2
  · intro o a b ho ha hb ia ib p d M l pa r n A hS hpe hL hd hd4 h
    obtain ⟨hS1, hS2, hS3⟩ := hS.B
    obtain ⟨g1, g2, g3⟩ := opl_of hS1
    have h1o : opl ls p ≠ 1 := by rw [g1]; show o ≠ 1; omega
    rw [sz_B] at hpe hd4 ⊢
    rw [sbs_B, rws_B]
    obtain ⟨M1, e1, F1, G1⟩ := pt_A h m (sp := sp) (se := sp + sz s) he (show p < e by omega) (lv := lv) (by omega) (at_ hS1) (fun q => h1o q.1)
    rw [if_neg h1o, g1, g2] at G1
    have k1 := h.add F1 G1
    obtain ⟨M2, e2, F2, G2⟩ := ia hS2 (by omega) (ly h F1 a ha hL.2.1) hd (by omega) k1
    have k2 := k1.add F2 G2
    obtain ⟨M3, e3, F3, G3⟩ := ib hS3 (by omega) (ly k1 F2 b hb (ly h F1 b hb hL.2.2)) hd (by omega) k2
    refine ⟨M3, ?_, (F1.trans F2).trans F3, ?_⟩
    · rw [show p + (sz a + sz b + 1) = p + 1 + sz a + sz b by omega]
      exact e1.trans (e2.trans e3)
    · simpa using G3
  · intro x a b hx ha hb ix ia ib p d M l pa r n A hS hpe hL hd hd4 h
    obtain ⟨hS1, hS2, hS3, hS4⟩ := hS.C
    obtain ⟨g1, g2, g3⟩ := opl_of hS1
    have h1o : opl ls p ≠ 1 := by rw [g1]; show 9 ≠ 1; omega
    rw [sz_C] at hpe hd4 ⊢
    rw [sbs_C, rws_C]
    have zx := sz_pos x hx
    obtain ⟨M1, e1, F1, G1⟩ := pt_A h m (sp := sp) (se := sp + sz s) he (show p < e by omega) (lv := lv) (by omega) (at_ hS1) (fun q => h1o q.1)
    rw [if_neg h1o, g1, g2] at G1
    have k1 := h.add F1 G1
    obtain ⟨M2, e2, F2, G2⟩ := ix hS2 (by omega) (ly h F1 x hx hL.2.1) hd (by omega) k1
    have k2 := k1.add F2 G2
    obtain ⟨M3, e3, F3, G3⟩ := ia hS3 (by omega) (ly k1 F2 a ha (ly h F1 a ha hL.2.2.1)) (by omega) (by omega) k2
    have k3 := k2.add F3 G3
    obtain ⟨M4, e4, F4, G4⟩ := ib hS4 (by omega) (ly k2 F3 b hb (ly k1 F2 b hb (ly h F1 b hb hL.2.2.2))) (by omega) (by omega) k3
    refine ⟨M4, ?_, ((F1.trans F2).trans F3).trans F4, ?_⟩
    · rw [show p + (sz x + sz a + sz b + 1) = p + 1 + sz x + sz a + sz b by omega]
      exact e1.trans (e2.trans (e3.trans e4))
    · simpa using G4
theorem c_putFor {M : Mem} {l : List (Nat × Tm)} (hnm : ∀ nd, nd ∈ ls → nmB nd) (m : Nat) {j sp lv p d : Nat} {s t : Tm} (hs0 : isT s) (hsp : Sb ls sp s) (ht : isT t) (hS : Sb ls p t) {pa : Int32} {r n : Nat} {A : Nat → Nat} (hL : Ly M t p d pa r n A) (hE : Ed M t p) (hj : j < 200) (h42 : M.2.2.1 42 j = nI lv) (hd : lv < d) (hd4 : d + sz t < 1000) (h : PtS M c sr tg ls l) : ∃ M1, f_X7_putFor (m + 2) 53 (nI j) (nI p) (nI sp) (nI (sp + sz s)) M = some ((), M1) ∧ Fr (SO tg) M M1 ∧ TgC M1 tg c (l ++ rws (sbs lv s t d)) := by
  have hle := hS.le
  have hl := h.1.2.2.2.2.1.2.1
  have hp := sz_pos t ht
  obtain ⟨M1, e1, F1, G1⟩ := pt_tree hnm m hs0 hsp hle t ht hS (Nat.le_refl _) hL hd hd4 h
  refine ⟨M1, ?_, F1, G1⟩
  have hW := h.1.1
  obtain ⟨q, hq⟩ : ∃ q, q = m + 1 := ⟨_, rfl⟩
  have ed := c_depthOf hW q hj
  have ee := c_endOf hW q (i := p) (by omega)
  rw [h42] at ed
  rw [hE.at_ t ht] at ee
  have e0 : f_X7_putFor (m + 2) 53 (nI j) (nI p) (nI sp) (nI (sp + sz s)) M = lpPf m sp (sp + sz s) lv (p + sz t) p M := by
    unfold lpPf
    rw [show m + 2 = q + 1 by omega]
    refine (ge_X7_putFor_0 (q + 1) 53 (nI j) (nI p) (nI sp) (nI (sp + sz s)) M).trans ?_
    unfold T_X7_putFor_0
    simp (disch := omega) only [↓gd_pos (fO_53 hW), ↓bnd_of (r_53_0 hW), ↓gd_pos (fO_40 hW), ↓bnd2_of (show cal (q + 1) (fun zz => f_X3_depthOf zz 40 (nI j) M) = _ from ed), ↓bnd2_of (show cal (q + 1) (fun zz => f_X3_endOf zz 40 (nI p) M) = _ from ee)]
  refine e0.trans (e1.trans ?_)
  unfold lpPf
  refine (ge_X7_putFor_23 (m + 2) 53 (nI sp) (nI (sp + sz s)) (nI lv) (nI (p + sz t)) (nI (p + sz t)) M1).trans ?_
  unfold T_X7_putFor_23
  simp (disch := omega) only [nI_le_, Nat.le_refl, ↓reduceIte]
end PTF
