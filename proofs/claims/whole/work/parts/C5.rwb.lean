/-! STEPS in the reference: how many nodes there will be; the new row -/
theorem nI_mul (a b : Nat) : nI a * nI b = nI (a * b) := (Int32.ofNat_mul a b).symm
theorem nI_sub {a b : Nat} (h : b ≤ a) (ha : a < 1000000) : nI a - nI b = nI (a - b) := by
  obtain ⟨j, rfl⟩ : ∃ j, a = b + j := ⟨a - b, by omega⟩
  rw [nI_sb ha, show b + j - b = j by omega]
section RWB
variable {M : Mem} {c : Nat} {l : List (Nat × Tm)}
noncomputable abbrev lpTi (k lv n e i : Nat) (M : Mem) : Option (Int32 × Mem) := lp (st_X11_timesIn (k + 2)) (12, [.ref 89, .int (nI lv), .int (nI n), .int (nI e), .int (nI i)], M)
theorem ti_one (hW : Wd M) (hR : WrkR M c l) (k : Nat) {lv n e i : Nat} (he : e ≤ l.length) (hi : i < e) (hlv : lv < 1000) (hn : nmB (opl l i, lbl l i)) : (opl l i = 1 ∧ lbl l i = .index lv → lpTi k lv n e i M = lpTi k lv (n + 1) e (i + 1) M) ∧ (¬ (opl l i = 1 ∧ lbl l i = .index lv) → lpTi k lv n e i M = lpTi k lv n e (i + 1) M) := by
  have hl := hR.2.1
  have hlt : i < l.length := by omega
  have hor := hR.2.2.1.at_ hlt
  have h5 := hR.kd hlt
  have hag := hR.ag hlt
  have hA5 := fA_R hW (a := 105) (by omega) (s_105 hW) (show i < 400 by omega) (by omega)
  have hA6 := fA_R hW (a := 106) (by omega) (s_106 hW) (show i < 400 by omega) (by omega)
  unfold lpTi
  constructor
  · intro ⟨q1, q2⟩
    have hgn : M.2.2.1 106 i = nI lv := by
      have := hag.1 q1
      rw [show (opl l i, lbl l i).2 = .index lv from q2] at this
      exact this
    rw [q1] at h5
    refine (ge_X11_timesIn_12 (k + 2) 89 (nI lv) (nI n) (nI e) (nI i) M).trans ?_
    unfold T_X11_timesIn_12
    simp (disch := omega) only [nI_le_, eq_false (show ¬ e ≤ i by omega), ↓reduceIte, ↓gd_pos (fO_R hW), ↓bnd_of (r_89_20 hW), ↓gd_pos hA5, nI_z, h5, show (nI (1 - 1) = (0 : Int32)) = True from eq_true rfl, ↓bnd_of (r_89_21 hW), ↓gd_pos hA6, hgn, nI_1]
  · intro hne
    refine (ge_X11_timesIn_12 (k + 2) 89 (nI lv) (nI n) (nI e) (nI i) M).trans ?_
    unfold T_X11_timesIn_12
    by_cases z : opl l i = 1
    · have hz : (nI (opl l i - 1) = (0 : Int32)) = True := eq_true (by rw [z]; rfl)
      have hgn : (M.2.2.1 106 i = nI lv) = False := eq_false (fun y => hne ⟨z, by
        have hgn : M.2.2.1 106 i = nv (lbl l i) := hag.1 z
        rcases hn z with ⟨j, hj, hj2⟩ | ⟨j, hj, hj2⟩
        · have hj : lbl l i = .index j := hj
          rw [hj] at hgn ⊢
          rw [y] at hgn
          have := (nI_eq (by omega) (by omega)).mp (show nI lv = nI j from hgn)
          rw [this]
        · have hj : lbl l i = .arg j := hj
          rw [hj] at hgn
          rw [y] at hgn
          have hgn : nI lv = -1 - nI j := hgn
          have := congrArg Int32.toInt hgn
          rw [hy_toInt (by omega), nI_toInt (by omega)] at this
          omega⟩)
      simp (disch := omega) only [nI_le_, eq_false (show ¬ e ≤ i by omega), ↓reduceIte, ↓gd_pos (fO_R hW), ↓bnd_of (r_89_20 hW), ↓gd_pos hA5, nI_z, h5, hz, ↓bnd_of (r_89_21 hW), ↓gd_pos hA6, hgn, Int32.add_zero, nI_1]
    · have hz : (nI (opl l i - 1) = (0 : Int32)) = False := eq_false (fun y => by have := (nI_eq (b := 0) (by omega) (by omega)).mp y; omega)
      simp (disch := omega) only [nI_le_, eq_false (show ¬ e ≤ i by omega), ↓reduceIte, ↓gd_pos (fO_R hW), ↓bnd_of (r_89_20 hW), ↓gd_pos hA5, nI_z, h5, hz, Int32.add_zero, nI_1]
theorem ti_tree (hW : Wd M) (hR : WrkR M c l) (hnm : ∀ nd, nd ∈ l → nmB nd) (k : Nat) {lv e : Nat} (he : e ≤ l.length) (hlv : lv < 1000) : ∀ t, isT t → ∀ {p n : Nat}, Sb l p t → p + sz t ≤ e → lpTi k lv n e p M = lpTi k lv (n + cn1 lv t) e (p + sz t) M := by
  have at_ : ∀ {p : Nat} {nd : Nat × Tm}, l[p]? = some nd → nmB (opl l p, lbl l p) := fun h => hnm _ (List.mem_of_getElem? (opl_get (opl_of h).2.2))
  apply tm_ind
  · intro j p n hS hpe
    obtain ⟨g1, g2, g3⟩ := opl_of hS.L
    rw [sz_L] at hpe ⊢
    show _ = lpTi k lv (n + if j = lv then 1 else 0) e (p + 1) M
    have := ti_one hW hR k (n := n) he (show p < e by omega) hlv (at_ hS.L)
    by_cases q : j = lv
    · rw [if_pos q]
      exact this.1 ⟨g1, by rw [g2, q]⟩
    · rw [if_neg q]
      exact this.2 (fun z => q (by have := z.2; rw [g2] at this; cases this; rfl))
  · intro j p n hS hpe
    obtain ⟨g1, g2, g3⟩ := opl_of hS.H
    rw [sz_H] at hpe ⊢
    exact (ti_one hW hR k (n := n) he (show p < e by omega) hlv (at_ hS.H)).2 (fun z => by have := z.2; rw [g2] at this; cases this)
  · intro o f a ho ha ih p n hS hpe
    obtain ⟨g1, g2, g3⟩ := opl_of hS.U.1
    rw [sz_U] at hpe ⊢
    have hrg := ho.rng
    rw [(ti_one hW hR k (n := n) he (show p < e by omega) hlv (at_ hS.U.1)).2 (fun z => by have := z.1; rw [g1] at this; replace this : o = 1 := this; omega), ih hS.U.2 (by omega), show p + (sz a + 1) = p + 1 + sz a by omega]
    rfl
  · intro o a b ho ha hb ia ib p n hS hpe
    obtain ⟨g1, g2, g3⟩ := opl_of hS.B.1
    rw [sz_B] at hpe ⊢
    rw [(ti_one hW hR k (n := n) he (show p < e by omega) hlv (at_ hS.B.1)).2 (fun z => by have := z.1; rw [g1] at this; replace this : o = 1 := this; omega), ia hS.B.2.1 (by omega), ib hS.B.2.2 (by omega), show p + (sz a + sz b + 1) = p + 1 + sz a + sz b by omega]
    show _ = lpTi k lv (n + (cn1 lv a + cn1 lv b)) e _ M
    rw [Nat.add_assoc n]
  · intro m a b hm ha hb im ia ib p n hS hpe
    obtain ⟨g1, g2, g3⟩ := opl_of hS.C.1
    rw [sz_C] at hpe ⊢
    rw [(ti_one hW hR k (n := n) he (show p < e by omega) hlv (at_ hS.C.1)).2 (fun z => by have := z.1; rw [g1] at this; replace this : 9 = 1 := this; omega), im hS.C.2.1 (by omega), ia hS.C.2.2.1 (by omega), ib hS.C.2.2.2 (by omega), show p + (sz m + sz a + sz b + 1) = p + 1 + sz m + sz a + sz b by omega]
    show _ = lpTi k lv (n + (cn1 lv m + cn1 lv a + cn1 lv b)) e _ M
    rw [show n + cn1 lv m + cn1 lv a + cn1 lv b = n + (cn1 lv m + cn1 lv a + cn1 lv b) by omega]
theorem rx_timesIn (hW : Wd M) (hR : WrkR M c l) (hnm : ∀ nd, nd ∈ l → nmB nd) (k : Nat) {lv p : Nat} (hlv : lv < 1000) {t : Tm} (ht : isT t) (hS : Sb l p t) : f_X11_timesIn (k + 2) 89 (nI p) (nI lv) M = some (nI (cn1 lv t), M) := by
  have hl := hR.2.1
  have hle := hS.le
  obtain ⟨q, hq⟩ : ∃ q, q = k + 1 := ⟨_, rfl⟩
  have y1 := rx_behind hW hR k ht hS
  rw [show k + 1 = q by omega] at y1
  have e0 : f_X11_timesIn (k + 2) 89 (nI p) (nI lv) M = lpTi k lv 0 (p + sz t) p M := by
    unfold lpTi
    rw [show k + 2 = q + 1 by omega]
    refine (ge_X11_timesIn_0 (q + 1) 89 (nI p) (nI lv) M).trans ?_
    unfold T_X11_timesIn_0
    simp only [↓gd_pos (fO_R hW), ↓bnd2_of (show cal (q + 1) (fun zz => f_X11_behind zz 89 (nI p) M) = _ from y1)]
    rfl
  rw [e0, ti_tree hW hR hnm k hle hlv t ht hS (Nat.le_refl _), Nat.zero_add]
  unfold lpTi
  refine (ge_X11_timesIn_12 (k + 2) 89 (nI lv) _ (nI (p + sz t)) (nI (p + sz t)) M).trans ?_
  unfold T_X11_timesIn_12
  simp (disch := omega) only [nI_le_, Nat.le_refl, ↓reduceIte]
theorem rx_withIn (hW : Wd M) (hR : WrkR M c l) (hnm : ∀ nd, nd ∈ l → nmB nd) (k : Nat) {lv p sp : Nat} (hlv : lv < 1000) {s t : Tm} (ht : isT t) (hS : Sb l p t) (hs : isT s) (hsp : Sb l sp s) (d : Nat) : f_X11_withIn (k + 3) 89 (nI p) (nI lv) (nI sp) M = some (nI (sz (sbs lv s t d)), M) := by
  obtain ⟨q, hq⟩ : ∃ q, q = k + 2 := ⟨_, rfl⟩
  have y1 := rx_nodesOf hW hR k ht hS
  have y2 := rx_timesIn hW hR hnm k hlv ht hS
  have y3 := rx_nodesOf hW hR k hs hsp
  rw [show k + 2 = q by omega] at y1 y2 y3
  rw [show k + 3 = q + 1 by omega]
  show T_X11_withIn_0 (fun v M => some (v, M)) none (q + 1) 89 (nI p) (nI lv) (nI sp) M = _
  unfold T_X11_withIn_0
  simp only [↓gd_pos (fO_R hW), ↓bnd2_of (show cal (q + 1) (fun zz => f_X11_nodesOf zz 89 (nI p) M) = _ from y1), ↓bnd2_of (show cal (q + 1) (fun zz => f_X11_timesIn zz 89 (nI p) (nI lv) M) = _ from y2), ↓bnd2_of (show cal (q + 1) (fun zz => f_X11_nodesOf zz 89 (nI sp) M) = _ from y3)]
  have e1 := sz_sbs (lv := lv) hs t ht d
  obtain ⟨z, hz⟩ : ∃ z, sz s = z + 1 := ⟨sz s - 1, by have := sz_pos s hs; omega⟩
  rw [hz] at e1 ⊢
  rw [show nI (z + 1) - 1 = nI z from pm_sub (z + 1), nI_mul, nI_add]
  rw [Nat.mul_succ] at e1
  rw [show sz t + cn1 lv t * z = sz (sbs lv s t d) by omega]
set_option maxHeartbeats 1000000 in
theorem rx_willBe (hW : Wd M) (hR : WrkR M c l) (hnm : ∀ nd, nd ∈ l → nmB nd) (k : Nat) {j e kd : Nat} {y : Fm} {s s' : Tm} (hs : isT s) (hS : Sb l j s) (hc : Cn e y kd s s') (he : e < 1000) (h114 : M.2.2.1 114 j = nI e) (hl2 : l.length ≤ 200) : f_X11_willBe (k + 4) 89 (nI j) (nI kd) M = some (nI (l.length - sz s + sz s'), M) := by
  have hle := hS.le
  have hps := sz_pos s hs
  have h24 := hR.1
  obtain ⟨q, hq⟩ : ∃ q, q = k + 3 := ⟨_, rfl⟩
  have y0 := rx_nodesOf hW hR (k + 1) hs hS
  rw [show k + 1 + 2 = q by omega] at y0
  have hA := fA_R hW (a := 114) (by omega) (s_114 hW) (show j < 400 by omega) (by omega)
  have e24 : M.2.2.1 89 24 - nI (sz s) = nI (l.length - sz s) := by rw [h24, nI_sub (by omega) (by omega)]
  have ee : f_X11_willBe (k + 4) 89 (nI j) (nI kd) M = T_X11_willBe_0 (fun v M => some (v, M)) none (q + 1) 89 (nI j) (nI kd) M := by rw [show k + 4 = q + 1 by omega]; rfl
  have fin : ∀ {a b : Nat}, nI a + nI b = nI (a + b) := fun {a b} => nI_add a b
  rw [ee]
  unfold T_X11_willBe_0
  rcases hc with ⟨rfl, f, a, u, rfl, rfl⟩ | ⟨rfl, f, a, b, rfl, rfl⟩ | ⟨rfl, f, a, b, rfl, rfl⟩ | ⟨rfl, f, a, x, z, rfl, rfl⟩ | ⟨rfl, f, a, x, z, rfl, rfl⟩ | ⟨rfl, x, a, b, hsh⟩ | ⟨rfl, g, a, rfl, hsh⟩
  · obtain ⟨-, hi, hu⟩ := hs
    obtain ⟨-, hS1, hS2⟩ := hS.B
    have y1 := rx_inner1 hW hR (k + 1) hi hS1
    have y2 := rx_withIn hW hR hnm k he hi.2 hS1.U.2 hu hS2 (e + 1)
    rw [show k + 1 + 2 = q by omega] at y1
    rw [show k + 3 = q by omega] at y2
    simp (disch := omega) only [↓reduceIte, ↓gd_pos (fO_R hW), ↓bnd2_of (show cal (q + 1) (fun zz => f_X11_nodesOf zz 89 (nI j) M) = _ from y0), show (nI 1 = (1 : Int32)) = True from eq_true rfl, ↓bnd_of (r_89_41 hW), ↓gd_pos hA, nI_z, h114, ↓bnd2_of (show cal (q + 1) (fun zz => f_X11_inner zz 89 (nI j) 1 M) = _ from y1), nI_1, ↓bnd2_of (show cal (q + 1) (fun zz => f_X11_withIn zz 89 (nI (j + 1 + 1)) (nI e) (nI (j + 1 + sz (tU 2 f a))) M) = _ from y2), e24, nI_add]
  · obtain ⟨-, -, ha, hb⟩ := hs
    obtain ⟨hS1, hS2⟩ := hS.U
    have y1 := rx_inner0 (M := M) q (j + 1)
    have y2 := rx_nodesOf hW hR (k + 1) ha hS2.B.2.1
    rw [show k + 1 + 2 = q by omega] at y2
    simp (disch := omega) only [↓reduceIte, ↓gd_pos (fO_R hW), ↓bnd2_of (show cal (q + 1) (fun zz => f_X11_nodesOf zz 89 (nI j) M) = _ from y0), show (nI 2 = (1 : Int32)) = False from eq_false (by decide), show (nI 2 = (2 : Int32)) = True from eq_true rfl, nI_1, ↓bnd2_of (show cal (q + 1) (fun zz => f_X11_inner zz 89 (nI (j + 1)) 0 M) = _ from y1), ↓bnd2_of (show cal (q + 1) (fun zz => f_X11_nodesOf zz 89 (nI (j + 1 + 1)) M) = _ from y2), e24, nI_add]
  · obtain ⟨-, -, ha, hb⟩ := hs
    obtain ⟨hS1, hS2⟩ := hS.U
    have y1 := rx_inner1 hW hR (k + 1) ha hS2.B.2.1
    have y2 := rx_nodesOf hW hR (k + 1) hb hS2.B.2.2
    rw [show k + 1 + 2 = q by omega] at y1 y2
    simp (disch := omega) only [↓reduceIte, ↓gd_pos (fO_R hW), ↓bnd2_of (show cal (q + 1) (fun zz => f_X11_nodesOf zz 89 (nI j) M) = _ from y0), show (nI 3 = (1 : Int32)) = False from eq_false (by decide), show (nI 3 = (2 : Int32)) = False from eq_false (by decide), show (nI 3 = (3 : Int32)) = True from eq_true rfl, nI_1, ↓bnd2_of (show cal (q + 1) (fun zz => f_X11_inner zz 89 (nI (j + 1)) 1 M) = _ from y1), ↓bnd2_of (show cal (q + 1) (fun zz => f_X11_nodesOf zz 89 (nI (j + 1 + 1 + sz a)) M) = _ from y2), e24, nI_add]
  · obtain ⟨hi, hx, hz⟩ := hs
    obtain ⟨-, hS1, hS2, hS3⟩ := hS.C
    have y1 := rx_inner1 hW hR (k + 1) hi hS1
    have y2 := rx_inner0 (M := M) q (j + 1)
    have y3 := rx_withIn hW hR hnm k he hx hS2 hi.2 hS1.U.2 (e + 1)
    rw [show k + 1 + 2 = q by omega] at y1
    rw [show k + 3 = q by omega] at y3
    simp (disch := omega) only [↓reduceIte, ↓gd_pos (fO_R hW), ↓bnd2_of (show cal (q + 1) (fun zz => f_X11_nodesOf zz 89 (nI j) M) = _ from y0), show (nI 4 = (1 : Int32)) = False from eq_false (by decide), show (nI 4 = (2 : Int32)) = False from eq_false (by decide), show (nI 4 = (3 : Int32)) = False from eq_false (by decide), show (nI 4 = (4 : Int32)) = True from eq_true rfl, ↓bnd2_of (show cal (q + 1) (fun zz => f_X11_inner zz 89 (nI j) 1 M) = _ from y1), ↓bnd_of (r_89_41 hW), ↓gd_pos hA, nI_z, h114, nI_1, ↓bnd2_of (show cal (q + 1) (fun zz => f_X11_inner zz 89 (nI (j + 1)) 0 M) = _ from y2), ↓bnd2_of (show cal (q + 1) (fun zz => f_X11_withIn zz 89 (nI (j + 1 + sz (tU 7 f a))) (nI e) (nI (j + 1 + 1)) M) = _ from y3), e24, nI_add]
  · obtain ⟨hi, hx, hz⟩ := hs
    obtain ⟨-, hS1, hS2, hS3⟩ := hS.C
    have y1 := rx_inner2 hW hR (k + 1) hi hx hS1 hS2
    have y2 := rx_inner0 (M := M) q (j + 1)
    have y3 := rx_withIn hW hR hnm k he hz hS3 hi.2 hS1.U.2 (e + 1)
    rw [show k + 1 + 2 = q by omega] at y1
    rw [show k + 3 = q by omega] at y3
    simp (disch := omega) only [↓reduceIte, ↓gd_pos (fO_R hW), ↓bnd2_of (show cal (q + 1) (fun zz => f_X11_nodesOf zz 89 (nI j) M) = _ from y0), show (nI 5 = (1 : Int32)) = False from eq_false (by decide), show (nI 5 = (2 : Int32)) = False from eq_false (by decide), show (nI 5 = (3 : Int32)) = False from eq_false (by decide), show (nI 5 = (4 : Int32)) = False from eq_false (by decide), show (nI 5 = (5 : Int32)) = True from eq_true rfl, ↓bnd2_of (show cal (q + 1) (fun zz => f_X11_inner zz 89 (nI j) 2 M) = _ from y1), ↓bnd_of (r_89_41 hW), ↓gd_pos hA, nI_z, h114, nI_1, ↓bnd2_of (show cal (q + 1) (fun zz => f_X11_inner zz 89 (nI (j + 1)) 0 M) = _ from y2), ↓bnd2_of (show cal (q + 1) (fun zz => f_X11_withIn zz 89 (nI (j + 1 + sz (tU 8 f a) + sz x)) (nI e) (nI (j + 1 + 1)) M) = _ from y3), e24, nI_add]
  · have fn : isT (tC x a b) → Sb l (j + 1) (tC x a b) → sz s' + sz (tC x a b) = sz s + sz s → T_X11_willBe_0 (fun v M => some (v, M)) none (q + 1) 89 (nI j) (nI 6) M = some (nI (l.length - sz s + sz s'), M) := by
      intro g1 g2 g3
      have y2 := rx_nodesOf hW hR (k + 1) g1 g2
      rw [show k + 1 + 2 = q by omega] at y2
      unfold T_X11_willBe_0
      simp (disch := omega) only [↓reduceIte, ↓gd_pos (fO_R hW), ↓bnd2_of (show cal (q + 1) (fun zz => f_X11_nodesOf zz 89 (nI j) M) = _ from y0), show (nI 6 = (1 : Int32)) = False from eq_false (by decide), show (nI 6 = (2 : Int32)) = False from eq_false (by decide), show (nI 6 = (3 : Int32)) = False from eq_false (by decide), show (nI 6 = (4 : Int32)) = False from eq_false (by decide), show (nI 6 = (5 : Int32)) = False from eq_false (by decide), show (nI 6 = (6 : Int32)) = True from eq_true rfl, nI_1, ↓bnd2_of (show cal (q + 1) (fun zz => f_X11_nodesOf zz 89 (nI (j + 1)) M) = _ from y2), e24, nI_add]
      rw [nI_sub (by omega) (by omega), show l.length - sz s + sz s + sz s - sz (tC x a b) = l.length - sz s + sz s' by omega]
    rcases hsh with ⟨u, rfl, rfl⟩ | ⟨o, f, ho, rfl, rfl⟩ | ⟨x1, z1, rfl, rfl⟩
    · refine fn hs.2.1 hS.B.2.1 ?_
      rw [sz_C, sz_B, sz_B, sz_B, sz_C, sz_lft u hs.2.2]
      omega
    · refine fn hs.2 hS.U.2 ?_
      rw [sz_C, sz_U, sz_U, sz_U, sz_C]
      omega
    · refine fn hs.1 hS.C.2.1 ?_
      rw [sz_C (m := x), sz_C (m := a), sz_C (m := b), sz_C (m := tC x a b), sz_C (m := x), sz_lft x1 hs.2.1, sz_lft z1 hs.2.2]
      omega
  · have fn : isT a → Sb l (j + 1 + 1) a → T_X11_willBe_0 (fun v M => some (v, M)) none (q + 1) 89 (nI j) (nI 7) M = some (nI (l.length - sz s + sz (tU 10 y a)), M) := by
      intro g1 g2
      have y1 := rx_inner0 (M := M) q (j + 1)
      have y2 := rx_nodesOf hW hR (k + 1) g1 g2
      rw [show k + 1 + 2 = q by omega] at y2
      unfold T_X11_willBe_0
      simp (disch := omega) only [↓reduceIte, ↓gd_pos (fO_R hW), ↓bnd2_of (show cal (q + 1) (fun zz => f_X11_nodesOf zz 89 (nI j) M) = _ from y0), show (nI 7 = (1 : Int32)) = False from eq_false (by decide), show (nI 7 = (2 : Int32)) = False from eq_false (by decide), show (nI 7 = (3 : Int32)) = False from eq_false (by decide), show (nI 7 = (4 : Int32)) = False from eq_false (by decide), show (nI 7 = (5 : Int32)) = False from eq_false (by decide), show (nI 7 = (6 : Int32)) = False from eq_false (by decide), nI_1, ↓bnd2_of (show cal (q + 1) (fun zz => f_X11_inner zz 89 (nI (j + 1)) 0 M) = _ from y1), ↓bnd2_of (show cal (q + 1) (fun zz => f_X11_nodesOf zz 89 (nI (j + 1 + 1)) M) = _ from y2), e24, nI_add, sz_U]
      rw [show l.length - sz s + 1 + sz a = l.length - sz s + (sz a + 1) by omega]
    rcases hsh with ⟨u, rfl⟩ | ⟨o, f, ho, rfl⟩ | ⟨x1, z1, rfl⟩
    · exact fn hs.2.1.2 hS.B.2.1.U.2
    · exact fn hs.2.2 hS.U.2.U.2
    · exact fn hs.1.2 hS.C.2.1.U.2
/-- the new row is put in the old one's place -/
def STr (a k : Nat) : Prop := (a = 89 ∧ k = 24) ∨ a = 105 ∨ a = 106
theorem tr_loop (hW : Wd M) {m : Nat} (hm : m ≤ 400) (k : Nat) : ∀ z j, j + z = m → ∀ M1, Fr STr M M1 → M1.2.2.1 89 24 = nI m → (∀ u, u < j → M1.2.2.1 105 u = M.2.2.1 107 u ∧ M1.2.2.1 106 u = M.2.2.1 108 u) → ∃ M2, lp (st_X11_turns k) (10, [.ref 89, .int (nI j)], M1) = some ((), M2) ∧ Fr STr M M2 ∧ M2.2.2.1 89 24 = nI m ∧ ∀ u, u < m → M2.2.2.1 105 u = M.2.2.1 107 u ∧ M2.2.2.1 106 u = M.2.2.1 108 u := by
  intro z
  induction z with
  | zero =>
    intro j hj M1 hF h24 hu
    have e : j = m := by omega
    subst e
    have hW1 := hF.Wd hW
    refine ⟨M1, ?_, hF, h24, hu⟩
    refine (ge_X11_turns_10 k 89 (nI j) M1).trans ?_
    unfold T_X11_turns_10
    simp (disch := omega) only [↓gd_pos (fO_R hW1), h24, nI_le_, Nat.le_refl, ↓reduceIte]
  | succ z ih =>
    intro j hj M1 hF h24 hu
    have hW1 := hF.Wd hW
    have hA5 := fA_R hW1 (a := 105) (by omega) (s_105 hW1) (show j < 400 by omega) (by omega)
    have hA6 := fA_R hW1 (a := 106) (by omega) (s_106 hW1) (show j < 400 by omega) (by omega)
    have hA7 := fA_R hW1 (a := 107) (by omega) (s_107 hW1) (show j < 400 by omega) (by omega)
    have hA8 := fA_R hW1 (a := 108) (by omega) (s_108 hW1) (show j < 400 by omega) (by omega)
    have i7 : M1.2.2.1 107 j = M.2.2.1 107 j := hF.int (by unfold STr; omega)
    have i8 : M1.2.2.1 108 j = M.2.2.1 108 j := hF.int (by unfold STr; omega)
    obtain ⟨M2, e2, F2, g2, u2⟩ := ih (j + 1) (by omega) (wI (wI M1 105 j (M.2.2.1 107 j)) 106 j (M.2.2.1 108 j)) ((hF.wI (by unfold STr; omega) _).wI (by unfold STr; omega) _) (by simp [up2_if, h24]) (fun u hu2 => by
      by_cases q : u = j
      · subst q
        exact ⟨by simp [up2_if], by simp [up2_if]⟩
      · have := hu u (by omega)
        exact ⟨by simp [up2_if, q, this.1], by simp [up2_if, q, this.2]⟩)
    refine ⟨M2, Eq.trans ?_ e2, F2, g2, u2⟩
    refine (ge_X11_turns_10 k 89 (nI j) M1).trans ?_
    unfold T_X11_turns_10
    simp (disch := omega) only [↓gd_pos (fO_R hW1), h24, nI_le_, eq_false (show ¬ m ≤ j by omega), ↓reduceIte, ↓bnd_of (r_89_20 hW1), ↓bnd_of (r_89_21 hW1), ↓bnd_of (r_89_22 hW1), ↓bnd_of (r_89_23 hW1), ↓gd_pos hA5, ↓gd_pos hA6, ↓gd_pos hA7, ↓gd_pos hA8, nI_z, i7, nI_1, up2_if, Nat.reduceEqDiff, false_and, if_false, i8]
theorem rx_turns {l1 : List (Nat × Tm)} (h : NwS M c l l1) (k : Nat) : ∃ M1, f_X11_turns k 89 M = some ((), M1) ∧ Fr STr M M1 ∧ WrkR M1 c l1 := by
  obtain ⟨hW, hR, h25, hl1, hN⟩ := h
  obtain ⟨M2, e2, F2, g2, u2⟩ := tr_loop hW hl1 k l1.length 0 (by omega) (wI M 89 24 (nI l1.length)) (Fr.refl.wI (by unfold STr; omega) _) (by simp [up2_if]) (fun u hu => by omega)
  refine ⟨M2, ?_, F2, g2, hl1, hN.1, fun i nd hi => ?_⟩
  · refine (ge_X11_turns_0 k 89 M).trans ?_
    unfold T_X11_turns_0
    simp only [↓gd_pos (fO_R hW), h25]
    exact e2
  · obtain ⟨a1, a2⟩ := hN.2 i nd hi
    rw [Nat.zero_add] at a1 a2 ⊢
    have := u2 i (opl_of hi).2.2
    rw [this.1, this.2]
    exact ⟨a1, a2.mv (fun j _ => by rw [dR_fq F2.q (fun k q => by unfold STr at q; omega) (fun k q => by unfold STr at q; omega) (fun k q => by unfold STr at q; omega)]) (Nat.le_refl _)⟩
end RWB
