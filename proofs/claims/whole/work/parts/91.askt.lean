/-! ASK in the class: all of it -/
section AKT
variable {tr c : Nat} {l : List (Nat × Tm)} {Hl : List (Nat × Fm)}
def AkI (M : Mem) (tr c : Nat) (l : List (Nat × Tm)) (Hl : List (Nat × Fm)) (t : Tm) (p d : Nat) (pa : Int32) (r n : Nat) (A : Nat → Nat) (G : Nat → Fm) (cz : Prop) (am K : Nat) (W : List Int32) : Prop := LtC M tr c l ∧ TabC M c ∧ HyC M 10 c Hl ∧ Sb l p t ∧ Ed M t p ∧ Ly M t p d pa r n A ∧ scp t d ∧ shp Hl.length t ∧ d ≤ p ∧ CzC l pa r cz ∧ (∀ j, j < d → TkO M c l p (A j) (G j)) ∧ wkC M W ∧ (∃ W1 W2, W = W1 ++ (wk t p am ++ W2) ∧ W1.length = K) ∧ (c + sz t ≤ 5200 ∨ ∃ x, Wt (fun _ f => Inn M c f) Hl.length (hF Hl) t p G d x)
def AkO (k : Nat) (M : Mem) (c : Nat) (Hl : List (Nat × Fm)) (t : Tm) (p d : Nat) (G : Nat → Fm) (cz : Prop) (am K : Nat) : Prop := ∃ c1 M1, AkB M c M1 c1 p (p + sz t) (sz t) ∧ ((∃ x, Wt (fun _ f => Inn M c f) Hl.length (hF Hl) t p G d x) → c1 = c ∧ Fr8 p (p + sz t) M M1) ∧ ((∃ e, e < 1000 ∧ ty (hF Hl) t p G d = .inl e ∧ lp (st_X3_ask (k + 3)) (2, [.ref 40, .int (nI K)], M) = some (nI e, M1)) ∨ ∃ x, ty (hF Hl) t p G d = .inr x ∧ Wt (TyQ M1 c1) Hl.length (hF Hl) t p G d x ∧ (cz → kdf x ≠ 11 → lp (st_X3_ask (k + 3)) (2, [.ref 40, .int (nI K)], M) = some (nI p, M1)) ∧ ((cz → kdf x = 11) → lp (st_X3_ask (k + 3)) (2, [.ref 40, .int (nI K)], M) = lp (st_X3_ask (k + 3)) (2, [.ref 40, .int (nI (K + (wk t p am).length))], M1)))
theorem Ly.at_ {M : Mem} : ∀ t, isT t → ∀ {p d : Nat} {pa : Int32} {r n : Nat} {A : Nat → Nat}, Ly M t p d pa r n A → at2 M p d pa r n := by
  apply tm_ind
  · intro k p d pa r n A h; exact h.1
  · intro k p d pa r n A h; exact h
  · intro o f a _ _ _ p d pa r n A h; exact h.1
  · intro o a b _ _ _ _ _ p d pa r n A h; exact h.1
  · intro m a b _ _ _ _ _ _ p d pa r n A h; exact h.1
theorem get_mid {W W1 A R : List Int32} {x : Int32} {K : Nat} (e : W = W1 ++ (A ++ x :: R)) (hK : W1.length = K) : W[K + A.length]? = some x := by
  rw [e, List.getElem?_append_right (by omega), List.getElem?_append_right (by omega), show K + A.length - W1.length - A.length = 0 by omega]
  rfl
theorem CzC.no {pa : Int32} {r p : Nat} (hp : p < l.length) (hpa : pa = nI p) (hr : r < 10) (h : ¬ (opl l p = 9 ∧ r = 0)) : CzC l pa r False := Or.inr ⟨p, hp, hpa, hr, fun q => q.elim, h⟩
set_option maxHeartbeats 4000000 in
theorem ak_main (k : Nat) : ∀ t, isT t → ∀ {p d : Nat} {pa : Int32} {r n : Nat} {A : Nat → Nat} {G : Nat → Fm} {cz : Prop} {am K : Nat} {W : List Int32} {c : Nat} {M : Mem}, AkI M tr c l Hl t p d pa r n A G cz am K W → AkO k M c Hl t p d G cz am K := by
  apply tm_ind
  · intro j p d pa r n A G cz am K W c M h
    obtain ⟨hL, hT, hH, hS, hE, hY, hsc, hsh, hd, hcz, hA, hw, ⟨W1, W2, eW, hK⟩, hrm⟩ := h
    obtain ⟨g1, g2, g3⟩ := opl_of hS.L
    have h2 := hL.2.2.2.2.1
    replace hsc : j < d := hsc
    rw [show wk (tL j) p am = amL am p ++ [nI p] from rfl] at eW
    have e0 := ak_am hL.1 hw k (p := p) (am := am) (R := nI p :: W2) (by omega) (by rw [eW]; simp) hK
    have hK2 : W[K + (amL am p).length]? = some (nI p) := get_mid (R := W2) (by rw [eW]; simp) hK
    obtain ⟨c1, M1, B1, q1, n1, x1, y1⟩ := ak_fin hL hw k hK2 g3 (uf_free hL (k + 1) g3 (Or.inl g1)) (pv_L hL hT k g3 g1 g2 (by omega) hY.2 (hA j hsc)) hY.1 hcz
    refine ⟨c1, M1, B1, fun ⟨x, w⟩ => n1 (by rw [← w.2.1]; exact w.2.2), Or.inr ⟨G j, ty_L, ⟨hsc, rfl, q1⟩, fun a b => e0.trans (x1 a b), fun a => ?_⟩⟩
    rw [show wk (tL j) p am = amL am p ++ [nI p] from rfl, List.length_append, ← Nat.add_assoc]
    exact e0.trans (y1 a)
  · intro j p d pa r n A G cz am K W c M h
    obtain ⟨hL, hT, hH, hS, hE, hY, hsc, hsh, hd, hcz, hA, hw, ⟨W1, W2, eW, hK⟩, hrm⟩ := h
    obtain ⟨g1, g2, g3⟩ := opl_of hS.H
    have h2 := hL.2.2.2.2.1
    replace hsh : j < Hl.length := hsh
    rw [show wk (tH j) p am = amL am p ++ [nI p] from rfl] at eW
    have e0 := ak_am hL.1 hw k (p := p) (am := am) (R := nI p :: W2) (by omega) (by rw [eW]; simp) hK
    have hK2 : W[K + (amL am p).length]? = some (nI p) := get_mid (R := W2) (by rw [eW]; simp) hK
    have hpv := pv_H hL hT hH k g3 g1 g2 hsh
    rw [← hF_at hsh] at hpv
    obtain ⟨c1, M1, B1, q1, n1, x1, y1⟩ := ak_fin hL hw k hK2 g3 (uf_free hL (k + 1) g3 (Or.inl g1)) hpv hY hcz
    refine ⟨c1, M1, B1, fun ⟨x, w⟩ => n1 (by rw [← w.2.1]; exact w.2.2), Or.inr ⟨hF Hl j, ty_H, ⟨hsh, rfl, q1⟩, fun a b => e0.trans (x1 a b), fun a => ?_⟩⟩
    rw [show wk (tH j) p am = amL am p ++ [nI p] from rfl, List.length_append, ← Nat.add_assoc]
    exact e0.trans (y1 a)
  · intro o f a ho hta ih p d pa r n A G cz am K W c M h
    obtain ⟨hL, hT, hH, hS, hE, hY, hsc, hsh, hd, hcz, hA, hw, ⟨W1, W2, eW, hK⟩, hrm⟩ := h
    obtain ⟨g, sa⟩ := hS.U
    obtain ⟨g1, g2, g3⟩ := opl_of g
    have h2 := hL.2.2.2.2.1
    have hle := sa.le
    have psa := sz_pos a hta
    have hor := ho.rng
    have hm0 := amN_le o 0
    have hwk : wk (tU o f a) p am = amL am p ++ (wk a (p + 1) (amN o 0) ++ [nI p]) := rfl
    rw [hwk] at eW
    have e0 := ak_am hL.1 hw k (p := p) (am := am) (R := wk a (p + 1) (amN o 0) ++ nI p :: W2) (by omega) (by rw [eW]; simp) hK
    have hI : AkI M tr c l Hl a (p + 1) (d + amN o 0) (nI p) 0 (n + 1) (if o = 2 then ups A d (p + 1) else A) (if o = 2 then ups G d f else G) False (amN o 0) (K + (amL am p).length) W := by
      refine ⟨hL, hT, hH, sa, hE.2, hY.2, hsc, hsh, by omega, CzC.no g3 rfl (by omega) (by rw [g1]; omega), fun j hj => ?_, hw, ⟨W1 ++ amL am p, nI p :: W2, by rw [eW]; simp, by rw [List.length_append, hK]⟩, ?_⟩
      · have hk1 : ∀ i, i < d → TkO M c l (p + 1) (A i) (G i) := fun i hi => (AkB.refl (p := p) (e := p) hT).tk (hA i hi) (Nat.le_refl _) (by omega) (by omega)
        by_cases h2' : o = 2
        · rw [if_pos h2', if_pos h2']
          by_cases hjd : j = d
          · subst hjd
            rw [ups_at, ups_at]
            have ha2 := hY.2.at_ a hta
            exact ⟨by omega, p, 0, g3, ha2.2.1, ha2.2.2.1, by omega, Or.inl ⟨by rw [g1, h2'], by rw [g2]⟩⟩
          · rw [ups_ne A _ hjd, ups_ne G _ hjd]
            refine hk1 j ?_
            rw [h2'] at hj
            have : amN 2 0 = 1 := rfl
            omega
        · have hz : amN o 0 = 0 := by
            unfold amN
            rw [if_neg h2', if_neg (by omega)]
          rw [if_neg h2', if_neg h2']
          exact hk1 j (by omega)
      · rcases hrm with q | ⟨x, w⟩
        · rw [sz_U] at q
          exact Or.inl (by omega)
        · obtain ⟨-, y, w1, -⟩ := w
          exact Or.inr ⟨y, w1⟩
    have hK2 : W[K + (amL am p).length + (wk a (p + 1) (amN o 0)).length]? = some (nI p) := by
      have := get_mid (W := W) (W1 := W1) (A := amL am p ++ wk a (p + 1) (amN o 0)) (x := nI p) (R := W2) (by rw [eW]; simp) hK
      rw [List.length_append, ← Nat.add_assoc] at this
      exact this
    have hlen : K + (wk (tU o f a) p am).length = K + (amL am p).length + (wk a (p + 1) (amN o 0)).length + 1 := by
      rw [hwk]
      simp only [List.length_append, List.length_cons, List.length_nil]
      omega
    obtain ⟨c1, M1, B1, nB, res⟩ := ih hI
    rcases res with ⟨e, he, te, le⟩ | ⟨y, ty1, w1, -, go⟩
    · refine ⟨c1, M1, B1.trans (AkB.refl (p := p) (e := p) B1.2.1) (by omega) (by rw [sz_U]; omega) (Nat.le_refl _) (by omega) (by rw [sz_U]; omega), fun ⟨x, w⟩ => ?_, Or.inl ⟨e, he, by rw [ty_U, te, sbd_l], e0.trans le⟩⟩
      obtain ⟨-, y, w1, -⟩ := w
      obtain ⟨u1, u2⟩ := nB ⟨y, w1⟩
      exact ⟨u1, u2.trans (p2 := p) (e2 := p) Fr.refl (by omega) (by rw [sz_U]; omega) (Nat.le_refl _) (by omega)⟩
    · have go' := go (fun q => q.elim)
      obtain ⟨v, hv, e48, dv⟩ := w1.root a hta
      have L1 := B1.lt hL
      have T1 := B1.2.1
      rcases ak_Ud L1 T1 (k + 1) (p := p) (by omega) (by rw [g1, g2]; exact ho) hv e48 with ⟨x, hr, hu⟩ | ⟨hn, hu⟩
      · rw [dv] at hr
        have hr' := hr
        rw [g1, g2] at hr'
        have hroom : c1 < 5200 ∨ ∃ i, i < c1 ∧ dC M1 i = x := by
          rcases hrm with q | ⟨x', w⟩
          · rw [sz_U] at q
            have := B1.2.2.2.1
            exact Or.inl (by omega)
          · obtain ⟨qx, y', w', r'⟩ := w
            have ey := w1.fn a hta w'
            subst ey
            have ex := hr'.fn r'
            subst ex
            obtain ⟨u1, u2⟩ := nB ⟨y, w'⟩
            rw [u1]
            exact Or.inr (qx.mv u2.dC)
        obtain ⟨c2, M2, B2, q2, n2, x2, y2⟩ := ak_fin L1 (B1.wk hw) k hK2 g3 hu (pv_U L1 T1 k (by omega) hv e48 (by rw [dv]; exact hr) hroom) (B1.at2 hY.1) hcz
        refine ⟨c2, M2, B1.trans B2 (by omega) (by rw [sz_U]; omega) (Nat.le_refl _) (by rw [sz_U]; omega) (by rw [sz_U]; omega), fun ⟨x', w⟩ => ?_, Or.inr ⟨x, by rw [ty_U, ty1, sbd_r]; exact tyU_ok hr', ⟨q2, y, B2.wt hta w1 (Or.inr (Nat.le_refl _)), hr'⟩, fun a b => e0.trans (go'.trans (x2 a b)), fun a => ?_⟩⟩
        · obtain ⟨qx, y', w', r'⟩ := w
          have ey := w1.fn a hta w'
          subst ey
          have ex := hr'.fn r'
          subst ex
          obtain ⟨u1, u2⟩ := nB ⟨y, w'⟩
          obtain ⟨u3, u4⟩ := n2 (by rw [u1]; exact qx.mv u2.dC)
          exact ⟨u3.trans u1, u2.trans u4 (by omega) (by rw [sz_U]; omega) (Nat.le_refl _) (by rw [sz_U]; omega)⟩
        · rw [hlen]
          exact e0.trans (go'.trans (y2 a))
      · rw [dv, g1, g2] at hn
        refine ⟨c1, M1, B1.trans (AkB.refl (p := p) (e := p) B1.2.1) (by omega) (by rw [sz_U]; omega) (Nat.le_refl _) (by omega) (by rw [sz_U]; omega), fun ⟨x, w⟩ => ?_, Or.inl ⟨p + 1, by omega, by rw [ty_U, ty1, sbd_r]; exact tyU_no hn, e0.trans (go'.trans (ak_bad L1 (B1.wk hw) k hK2 g3 (by omega) hu))⟩⟩
        obtain ⟨-, y, w1, -⟩ := w
        obtain ⟨u1, u2⟩ := nB ⟨y, w1⟩
        exact ⟨u1, u2.trans (p2 := p) (e2 := p) Fr.refl (by omega) (by rw [sz_U]; omega) (Nat.le_refl _) (by omega)⟩
  · intro o a b ho hta htb ia ib p d pa r n A G cz am K W c M h
    obtain ⟨hL, hT, hH, hS, hE, hY, hsc, hsh, hd, hcz, hA, hw, ⟨W1, W2, eW, hK⟩, hrm⟩ := h
    obtain ⟨g, sa, sb⟩ := hS.B
    obtain ⟨g1, g2, g3⟩ := opl_of g
    have h2 := hL.2.2.2.2.1
    have hle := sb.le
    have psa := sz_pos a hta
    have psb := sz_pos b htb
    have hwk : wk (tB o a b) p am = amL am p ++ (wk a (p + 1) 0 ++ (wk b (p + 1 + sz a) 0 ++ [nI p])) := rfl
    rw [hwk] at eW
    have e0 := ak_am hL.1 hw k (p := p) (am := am) (R := wk a (p + 1) 0 ++ (wk b (p + 1 + sz a) 0 ++ nI p :: W2)) (by omega) (by rw [eW]; simp) hK
    have hIa : AkI M tr c l Hl a (p + 1) d (nI p) 0 (n + 1) A G False 0 (K + (amL am p).length) W := by
      refine ⟨hL, hT, hH, sa, hE.2.1, hY.2.1, hsc.1, hsh.1, by omega, CzC.no g3 rfl (by omega) (by rw [g1]; omega), fun j hj => (AkB.refl (p := p) (e := p) hT).tk (hA j hj) (Nat.le_refl _) (by omega) (by omega), hw, ⟨W1 ++ amL am p, wk b (p + 1 + sz a) 0 ++ nI p :: W2, by rw [eW]; simp, by rw [List.length_append, hK]⟩, ?_⟩
      rcases hrm with q | ⟨x, w⟩
      · rw [sz_B] at q
        exact Or.inl (by omega)
      · obtain ⟨-, y, z, w1, -⟩ := w
        exact Or.inr ⟨y, w1⟩
    have hK3 : W[K + (amL am p).length + (wk a (p + 1) 0).length + (wk b (p + 1 + sz a) 0).length]? = some (nI p) := by
      have := get_mid (W := W) (W1 := W1) (A := amL am p ++ wk a (p + 1) 0 ++ wk b (p + 1 + sz a) 0) (x := nI p) (R := W2) (by rw [eW]; simp) hK
      rw [List.length_append, List.length_append, ← Nat.add_assoc, ← Nat.add_assoc] at this
      exact this
    have hlen : K + (wk (tB o a b) p am).length = K + (amL am p).length + (wk a (p + 1) 0).length + (wk b (p + 1 + sz a) 0).length + 1 := by
      rw [hwk]
      simp only [List.length_append, List.length_cons, List.length_nil]
      omega
    obtain ⟨c1, M1, B1, nA, res⟩ := ia hIa
    rcases res with ⟨e, he, te, le⟩ | ⟨y, ty1, w1, -, go⟩
    · refine ⟨c1, M1, B1.trans (AkB.refl (p := p) (e := p) B1.2.1) (by omega) (by rw [sz_B]; omega) (Nat.le_refl _) (by omega) (by rw [sz_B]; omega), fun ⟨x, w⟩ => ?_, Or.inl ⟨e, he, by rw [ty_B, te, sbd_l], e0.trans le⟩⟩
      obtain ⟨-, y, z, w1, -⟩ := w
      obtain ⟨u1, u2⟩ := nA ⟨y, w1⟩
      exact ⟨u1, u2.trans (p2 := p) (e2 := p) Fr.refl (by omega) (by rw [sz_B]; omega) (Nat.le_refl _) (by omega)⟩
    have go1 := go (fun q => q.elim)
    have L1 := B1.lt hL
    have T1 := B1.2.1
    have hIb : AkI M1 tr c1 l Hl b (p + 1 + sz a) d (nI p) 1 (n + 1) A G False 0 (K + (amL am p).length + (wk a (p + 1) 0).length) W := by
      refine ⟨L1, T1, B1.hy hH, sb, B1.ed htb hE.2.2, B1.ly htb hY.2.2, hsc.2, hsh.2, by omega, CzC.no g3 rfl (by omega) (by rw [g1]; omega), fun j hj => B1.tk (hA j hj) (by omega) (by omega) (by omega), B1.wk hw, ⟨W1 ++ amL am p ++ wk a (p + 1) 0, nI p :: W2, by rw [eW]; simp, by rw [List.length_append, List.length_append, hK]⟩, ?_⟩
      rcases hrm with q | ⟨x, w⟩
      · rw [sz_B] at q
        have := B1.2.2.2.1
        exact Or.inl (by omega)
      · obtain ⟨-, y', z, w', v', -⟩ := w
        obtain ⟨u1, u2⟩ := nA ⟨y', w'⟩
        rw [u1]
        exact Or.inr ⟨z, v'.imp b htb (fun _ _ _ _ q => q.mv u2.dC)⟩
    obtain ⟨c2, M2, B2, nB, res2⟩ := ib hIb
    have B12 : AkB M c M2 c2 (p + 1) (p + 1 + sz a + sz b) (sz a + sz b) := B1.trans B2 (Nat.le_refl _) (by omega) (by omega) (by omega) (Nat.le_refl _)
    have nAB : (∃ x, Wt (fun _ f => Inn M c f) Hl.length (hF Hl) (tB o a b) p G d x) → c2 = c ∧ Fr8 (p + 1) (p + 1 + sz a + sz b) M M2 := by
      rintro ⟨x, w⟩
      obtain ⟨-, y', z, w', v', -⟩ := w
      obtain ⟨u1, u2⟩ := nA ⟨y', w'⟩
      obtain ⟨u3, u4⟩ := nB ⟨z, by rw [u1]; exact v'.imp b htb (fun _ _ _ _ q => q.mv u2.dC)⟩
      exact ⟨u3.trans u1, u2.trans u4 (Nat.le_refl _) (by omega) (by omega) (by omega)⟩
    rcases res2 with ⟨e, he, te, le⟩ | ⟨z, ty2, w2, -, go2⟩
    · refine ⟨c2, M2, B12.trans (AkB.refl (p := p) (e := p) B2.2.1) (by omega) (by rw [sz_B]; omega) (Nat.le_refl _) (by omega) (by rw [sz_B]; omega), fun q => ?_, Or.inl ⟨e, he, by rw [ty_B, ty1, sbd_r, te, sbd_l], e0.trans (go1.trans le)⟩⟩
      obtain ⟨u1, u2⟩ := nAB q
      exact ⟨u1, u2.trans (p2 := p) (e2 := p) Fr.refl (by omega) (by rw [sz_B]; omega) (Nat.le_refl _) (by omega)⟩
    have go2' := go2 (fun q => q.elim)
    have L2 := B2.lt L1
    have T2 := B2.2.1
    have w1' : Wt (TyQ M2 c2) Hl.length (hF Hl) a (p + 1) G d y := B2.wt hta w1 (Or.inl (Nat.le_refl _))
    obtain ⟨v, hv, e48, dv⟩ := w1'.root a hta
    obtain ⟨u, hu, f48, du⟩ := w2.root b htb
    have ea : M2.2.2.1 41 (p + 1) = nI (p + 1 + sz a) := by
      rw [B12.int (by omega) (by omega)]
      exact hE.2.1.at_ a hta
    rcases ak_Bd L2 T2 (k + 1) (p := p) (q := p + 1 + sz a) (by omega) (by omega) (by rw [g1]; exact ho) hv hu ea e48 f48 with ⟨x, hr, huf⟩ | ⟨hn, huf⟩
    · rw [dv, du] at hr
      have hr' := hr
      rw [g1] at hr'
      have hroom : c2 < 5200 ∨ ∃ i, i < c2 ∧ dC M2 i = x := by
        rcases hrm with q | ⟨x', w⟩
        · rw [sz_B] at q
          have := B12.2.2.2.1
          exact Or.inl (by omega)
        · obtain ⟨u1, u2⟩ := nAB ⟨x', w⟩
          obtain ⟨qx, y', z', w', v', r'⟩ := w
          have ey := w1.fn a hta w'
          have ez := w2.fn b htb v'
          subst ey ez
          have ex := hr'.fn r'
          subst ex
          rw [u1]
          exact Or.inr (qx.mv u2.dC)
      obtain ⟨c3, M3, B3, q3, n3, x3, y3⟩ := ak_fin L2 (B12.wk hw) k hK3 g3 huf (pv_B L2 T2 k (by omega) (by omega) hv hu ea e48 f48 (by rw [dv, du]; exact hr) hroom) (B12.at2 hY.1) hcz
      refine ⟨c3, M3, B12.trans B3 (by omega) (by rw [sz_B]; omega) (Nat.le_refl _) (by rw [sz_B]; omega) (by rw [sz_B]; omega), fun ⟨x', w⟩ => ?_, Or.inr ⟨x, by rw [ty_B, ty1, sbd_r, ty2, sbd_r]; exact tyB_ok hr', ⟨q3, y, z, B3.wt hta w1' (Or.inr (Nat.le_refl _)), B3.wt htb w2 (Or.inr (by omega)), hr'⟩, fun a b => e0.trans (go1.trans (go2'.trans (x3 a b))), fun a => ?_⟩⟩
      · obtain ⟨u1, u2⟩ := nAB ⟨x', w⟩
        obtain ⟨qx, y', z', w', v', r'⟩ := w
        have ey := w1.fn a hta w'
        have ez := w2.fn b htb v'
        subst ey ez
        have ex := hr'.fn r'
        subst ex
        obtain ⟨u3, u4⟩ := n3 (by rw [u1]; exact qx.mv u2.dC)
        exact ⟨u3.trans u1, u2.trans u4 (by omega) (by rw [sz_B]; omega) (Nat.le_refl _) (by rw [sz_B]; omega)⟩
      · rw [hlen]
        exact e0.trans (go1.trans (go2'.trans (y3 a)))
    · rw [dv, du, g1] at hn
      rw [dv, g1] at huf
      refine ⟨c2, M2, B12.trans (AkB.refl (p := p) (e := p) B2.2.1) (by omega) (by rw [sz_B]; omega) (Nat.le_refl _) (by omega) (by rw [sz_B]; omega), fun q => ?_, Or.inl ⟨if o = 3 ∧ kdf y = 9 then p + 1 + sz a else p + 1, by split <;> omega, by rw [ty_B, ty1, sbd_r, ty2, sbd_r]; exact tyB_no hn, e0.trans (go1.trans (go2'.trans (ak_bad L2 (B12.wk hw) k hK3 g3 (by split <;> omega) huf)))⟩⟩
      obtain ⟨u1, u2⟩ := nAB q
      exact ⟨u1, u2.trans (p2 := p) (e2 := p) Fr.refl (by omega) (by rw [sz_B]; omega) (Nat.le_refl _) (by omega)⟩
  · intro m a b htm hta htb im ia ib p d pa r n A G cz am K W c M h
    obtain ⟨hL, hT, hH, hS, hE, hY, hsc, hsh, hd, hcz, hA, hw, ⟨W1, W2, eW, hK⟩, hrm⟩ := h
    obtain ⟨g, sm, sa, sb⟩ := hS.C
    obtain ⟨g1, g2, g3⟩ := opl_of g
    have h2 := hL.2.2.2.2.1
    have hle := sb.le
    have psm := sz_pos m htm
    have psa := sz_pos a hta
    have psb := sz_pos b htb
    have hwk : wk (tC m a b) p am = amL am p ++ (wk m (p + 1) 0 ++ (wk a (p + 1 + sz m) 1 ++ (wk b (p + 1 + sz m + sz a) 1 ++ [nI p]))) := rfl
    rw [hwk] at eW
    have e0 := ak_am hL.1 hw k (p := p) (am := am) (R := wk m (p + 1) 0 ++ (wk a (p + 1 + sz m) 1 ++ (wk b (p + 1 + sz m + sz a) 1 ++ nI p :: W2))) (by omega) (by rw [eW]; simp) hK
    have hIm : AkI M tr c l Hl m (p + 1) d (nI p) 0 (n + 1) A G True 0 (K + (amL am p).length) W := by
      refine ⟨hL, hT, hH, sm, hE.2.1, hY.2.1, hsc.1, hsh.1, by omega, Or.inr ⟨p, g3, rfl, by omega, fun _ => ⟨g1, rfl⟩, fun _ => trivial⟩, fun j hj => (AkB.refl (p := p) (e := p) hT).tk (hA j hj) (Nat.le_refl _) (by omega) (by omega), hw, ⟨W1 ++ amL am p, wk a (p + 1 + sz m) 1 ++ (wk b (p + 1 + sz m + sz a) 1 ++ nI p :: W2), by rw [eW]; simp, by rw [List.length_append, hK]⟩, ?_⟩
      rcases hrm with q | ⟨x, w⟩
      · rw [sz_C] at q
        exact Or.inl (by omega)
      · obtain ⟨-, y, z, w1, -⟩ := w
        exact Or.inr ⟨_, w1⟩
    have hK4 : W[K + (amL am p).length + (wk m (p + 1) 0).length + (wk a (p + 1 + sz m) 1).length + (wk b (p + 1 + sz m + sz a) 1).length]? = some (nI p) := by
      have := get_mid (W := W) (W1 := W1) (A := amL am p ++ wk m (p + 1) 0 ++ wk a (p + 1 + sz m) 1 ++ wk b (p + 1 + sz m + sz a) 1) (x := nI p) (R := W2) (by rw [eW]; simp) hK
      rw [List.length_append, List.length_append, List.length_append, ← Nat.add_assoc, ← Nat.add_assoc, ← Nat.add_assoc] at this
      exact this
    have hlen : K + (wk (tC m a b) p am).length = K + (amL am p).length + (wk m (p + 1) 0).length + (wk a (p + 1 + sz m) 1).length + (wk b (p + 1 + sz m + sz a) 1).length + 1 := by
      rw [hwk]
      simp only [List.length_append, List.length_cons, List.length_nil]
      omega
    obtain ⟨c1, M1, B1, nM, res⟩ := im hIm
    have nM' : (∃ x, Wt (fun _ f => Inn M c f) Hl.length (hF Hl) (tC m a b) p G d x) → c1 = c ∧ Fr8 (p + 1) (p + 1 + sz m) M M1 := by
      rintro ⟨x, w⟩
      obtain ⟨-, y, z, w1, -⟩ := w
      exact nM ⟨_, w1⟩
    have widen : ∀ {M2 : Mem} {c2 e2 z2 : Nat}, AkB M c M2 c2 (p + 1) e2 z2 → e2 ≤ p + sz (tC m a b) → z2 ≤ sz (tC m a b) → AkB M c M2 c2 p (p + sz (tC m a b)) (sz (tC m a b)) := fun B he hz => B.trans (AkB.refl (p := p) (e := p) B.2.1) (by omega) he (Nat.le_refl _) (by omega) (by omega)
    have widen8 : ∀ {M2 : Mem} {e2 : Nat}, Fr8 (p + 1) e2 M M2 → e2 ≤ p + sz (tC m a b) → Fr8 p (p + sz (tC m a b)) M M2 := fun F he => F.trans (p2 := p) (e2 := p) Fr.refl (by omega) he (Nat.le_refl _) (by omega)
    rcases res with ⟨e, he, te, le⟩ | ⟨s, ty1, w1, bad1, go1⟩
    · refine ⟨c1, M1, widen B1 (by rw [sz_C]; omega) (by rw [sz_C]; omega), fun q => ?_, Or.inl ⟨e, he, by rw [ty_C, te, sbd_l], e0.trans le⟩⟩
      obtain ⟨u1, u2⟩ := nM' q
      exact ⟨u1, widen8 u2 (by rw [sz_C]; omega)⟩
    have L1 := B1.lt hL
    have T1 := B1.2.1
    obtain ⟨v, hv, e48, dv⟩ := w1.root m htm
    by_cases hs : kdf s = 11
    · obtain ⟨y, z, es⟩ := kdf_of (j := 11) (by omega) (by omega) hs (fun k e => ((T1.kd hv).2.2 k (dv.trans e)).1)
      replace es : s = .sub y z := es
      subst es
      have go1' := go1 (fun _ => hs)
      have hya := B1.ly hta hY.2.2.1
      have hyb := B1.ly htb hY.2.2.2
      have aa := hya.at_ a hta
      have ab := hyb.at_ b htb
      have hIa : AkI M1 tr c1 l Hl a (p + 1 + sz m) (d + 1) (nI p) 1 (n + 1) (ups A d (p + 1 + sz m)) (ups G d y) False 1 (K + (amL am p).length + (wk m (p + 1) 0).length) W := by
        refine ⟨L1, T1, B1.hy hH, sa, B1.ed hta hE.2.2.1, hya, hsc.2.1, hsh.2.1, by omega, CzC.no g3 rfl (by omega) (by omega), fun j hj => ?_, B1.wk hw, ⟨W1 ++ amL am p ++ wk m (p + 1) 0, wk b (p + 1 + sz m + sz a) 1 ++ nI p :: W2, by rw [eW]; simp, by rw [List.length_append, List.length_append, hK]⟩, ?_⟩
        · by_cases hjd : j = d
          · subst hjd
            rw [ups_at, ups_at]
            exact ⟨by omega, p, 1, g3, aa.2.1, aa.2.2.1, by omega, Or.inr ⟨g1, by omega, by omega, v, y, z, hv, e48, dv, rfl⟩⟩
          · rw [ups_ne A _ hjd, ups_ne G _ hjd]
            exact B1.tk (hA j (by omega)) (by omega) (by omega) (by omega)
        · rcases hrm with q | ⟨x, w⟩
          · rw [sz_C] at q
            have := B1.2.2.2.1
            exact Or.inl (by omega)
          · obtain ⟨u1, u2⟩ := nM' ⟨x, w⟩
            obtain ⟨-, y', z', w', v', -⟩ := w
            have e1 := w1.fn m htm w'
            cases e1
            rw [u1]
            exact Or.inr ⟨x, v'.imp a hta (fun _ _ _ _ q => q.mv u2.dC)⟩
      obtain ⟨c2, M2, B2, nA, res2⟩ := ia hIa
      have B12 : AkB M c M2 c2 (p + 1) (p + 1 + sz m + sz a) (sz m + sz a) := B1.trans B2 (Nat.le_refl _) (by omega) (by omega) (by omega) (Nat.le_refl _)
      have nMA : (∃ x, Wt (fun _ f => Inn M c f) Hl.length (hF Hl) (tC m a b) p G d x) → c2 = c ∧ Fr8 (p + 1) (p + 1 + sz m + sz a) M M2 := by
        rintro ⟨x, w⟩
        obtain ⟨u1, u2⟩ := nM' ⟨x, w⟩
        obtain ⟨-, y', z', w', v', -⟩ := w
        have e1 := w1.fn m htm w'
        cases e1
        obtain ⟨u3, u4⟩ := nA ⟨x, by rw [u1]; exact v'.imp a hta (fun _ _ _ _ q => q.mv u2.dC)⟩
        exact ⟨u3.trans u1, u2.trans u4 (Nat.le_refl _) (by omega) (by omega) (by omega)⟩
      have tyC0 : ty (hF Hl) (tC m a b) p G d = sbd (ty (hF Hl) a (p + 1 + sz m) (ups G d y) (d + 1)) (fun u => sbd (ty (hF Hl) b (p + 1 + sz m + sz a) (ups G d z) (d + 1)) (fun w => tyE u w (p + 1 + sz m + sz a))) := by
        rw [ty_C, ty1, sbd_r]
        rfl
      rcases res2 with ⟨e, he, te, le⟩ | ⟨x, ty2, w2, -, go2⟩
      · refine ⟨c2, M2, widen B12 (by rw [sz_C]; omega) (by rw [sz_C]; omega), fun q => ?_, Or.inl ⟨e, he, by rw [tyC0, te, sbd_l], e0.trans (go1'.trans le)⟩⟩
        obtain ⟨u1, u2⟩ := nMA q
        exact ⟨u1, widen8 u2 (by rw [sz_C]; omega)⟩
      have go2' := go2 (fun q => q.elim)
      have L2 := B2.lt L1
      have T2 := B2.2.1
      have w1' : Wt (TyQ M2 c2) Hl.length (hF Hl) m (p + 1) G d (.sub y z) := B2.wt htm w1 (Or.inl (Nat.le_refl _))
      obtain ⟨v2, hv2, e482, dv2⟩ := w1'.root m htm
      have hyb2 := B2.ly htb hyb
      have ab2 := hyb2.at_ b htb
      have hIb : AkI M2 tr c2 l Hl b (p + 1 + sz m + sz a) (d + 1) (nI p) 2 (n + 1) (ups A d (p + 1 + sz m + sz a)) (ups G d z) False 1 (K + (amL am p).length + (wk m (p + 1) 0).length + (wk a (p + 1 + sz m) 1).length) W := by
        refine ⟨L2, T2, B12.hy hH, sb, B12.ed htb hE.2.2.2, hyb2, hsc.2.2, hsh.2.2, by omega, CzC.no g3 rfl (by omega) (by omega), fun j hj => ?_, B12.wk hw, ⟨W1 ++ amL am p ++ wk m (p + 1) 0 ++ wk a (p + 1 + sz m) 1, nI p :: W2, by rw [eW]; simp, by rw [List.length_append, List.length_append, List.length_append, hK]⟩, ?_⟩
        · by_cases hjd : j = d
          · subst hjd
            rw [ups_at, ups_at]
            exact ⟨by omega, p, 2, g3, ab2.2.1, ab2.2.2.1, by omega, Or.inr ⟨g1, by omega, by omega, v2, y, z, hv2, e482, dv2, rfl⟩⟩
          · rw [ups_ne A _ hjd, ups_ne G _ hjd]
            exact B12.tk (hA j (by omega)) (by omega) (by omega) (by omega)
        · rcases hrm with q | ⟨x', w⟩
          · rw [sz_C] at q
            have := B12.2.2.2.1
            exact Or.inl (by omega)
          · obtain ⟨u1, u2⟩ := nMA ⟨x', w⟩
            obtain ⟨-, y', z', w', -, v'⟩ := w
            have e1 := w1.fn m htm w'
            cases e1
            rw [u1]
            exact Or.inr ⟨x', v'.imp b htb (fun _ _ _ _ q => q.mv u2.dC)⟩
      obtain ⟨c3, M3, B3, nB, res3⟩ := ib hIb
      have B123 : AkB M c M3 c3 (p + 1) (p + 1 + sz m + sz a + sz b) (sz m + sz a + sz b) := B12.trans B3 (Nat.le_refl _) (by omega) (by omega) (by omega) (Nat.le_refl _)
      have nMAB : (∃ x, Wt (fun _ f => Inn M c f) Hl.length (hF Hl) (tC m a b) p G d x) → c3 = c ∧ Fr8 (p + 1) (p + 1 + sz m + sz a + sz b) M M3 := by
        rintro ⟨x', w⟩
        obtain ⟨u1, u2⟩ := nMA ⟨x', w⟩
        obtain ⟨-, y', z', w', -, v'⟩ := w
        have e1 := w1.fn m htm w'
        cases e1
        obtain ⟨u3, u4⟩ := nB ⟨x', by rw [u1]; exact v'.imp b htb (fun _ _ _ _ q => q.mv u2.dC)⟩
        exact ⟨u3.trans u1, u2.trans u4 (Nat.le_refl _) (by omega) (by omega) (by omega)⟩
      rcases res3 with ⟨e, he, te, le⟩ | ⟨x2, ty3, w3, -, go3⟩
      · refine ⟨c3, M3, widen B123 (by rw [sz_C]; omega) (by rw [sz_C]; omega), fun q => ?_, Or.inl ⟨e, he, by rw [tyC0, ty2, sbd_r, te, sbd_l], e0.trans (go1'.trans (go2'.trans le))⟩⟩
        obtain ⟨u1, u2⟩ := nMAB q
        exact ⟨u1, widen8 u2 (by rw [sz_C]; omega)⟩
      have go3' := go3 (fun q => q.elim)
      have L3 := B3.lt L2
      have T3 := B3.2.1
      have w1'' : Wt (TyQ M3 c3) Hl.length (hF Hl) m (p + 1) G d (.sub y z) := B3.wt htm w1' (Or.inl (by omega))
      have w2' : Wt (TyQ M3 c3) Hl.length (hF Hl) a (p + 1 + sz m) (ups G d y) (d + 1) x := B3.wt hta w2 (Or.inl (Nat.le_refl _))
      obtain ⟨i1, hi1, f1, di1⟩ := w2'.root a hta
      obtain ⟨i2, hi2, f2, di2⟩ := w3.root b htb
      have em : M3.2.2.1 41 (p + 1) = nI (p + 1 + sz m) := by
        rw [B123.int (by omega) (by omega)]
        exact hE.2.1.at_ m htm
      have ea : M3.2.2.1 41 (p + 1 + sz m) = nI (p + 1 + sz m + sz a) := by
        rw [B123.int (by omega) (by omega)]
        exact hE.2.2.1.at_ a hta
      have h53 := T3.2.1
      have huf := uf_case L3 (k + 1) (p := p) (q := p + 1 + sz m) (r := p + 1 + sz m + sz a) (by omega) (by omega) (by omega) g1 (show i1 < 10000 by omega) (show i2 < 10000 by omega) em ea f1 f2
      by_cases hx : x = x2
      · subst hx
        have hii : i2 = i1 := T3.inj hi2 hi1 (di2.trans di1.symm)
        rw [if_pos hii] at huf
        have hpv := pv_C L3 k (p := p) (q := p + 1 + sz m) (w := i1) (by omega) (by omega) g1 em f1
        obtain ⟨c4, M4, B4, q4, n4, x4, y4⟩ := ak_fin L3 (B123.wk hw) k hK4 g3 huf (PvE.same T3 hi1 di1 hpv) (B123.at2 hY.1) hcz
        have hE0 : tyE x x (p + 1 + sz m + sz a) = .inr x := if_pos rfl
        refine ⟨c4, M4, B123.trans B4 (by omega) (by rw [sz_C]; omega) (Nat.le_refl _) (by rw [sz_C]; omega) (by rw [sz_C]; omega), fun q => ?_, Or.inr ⟨x, by rw [tyC0, ty2, sbd_r, ty3, sbd_r, hE0], ⟨q4, y, z, B4.wt htm w1'' (Or.inr (Nat.le_refl _)), B4.wt hta w2' (Or.inr (by omega)), B4.wt htb w3 (Or.inr (by omega))⟩, fun a b => e0.trans (go1'.trans (go2'.trans (go3'.trans (x4 a b)))), fun a => ?_⟩⟩
        · obtain ⟨u1, u2⟩ := nMAB q
          obtain ⟨u3, u4⟩ := n4 ⟨i1, hi1, di1⟩
          exact ⟨u3.trans u1, u2.trans u4 (by omega) (by rw [sz_C]; omega) (Nat.le_refl _) (by rw [sz_C]; omega)⟩
        · rw [hlen]
          exact e0.trans (go1'.trans (go2'.trans (go3'.trans (y4 a))))
      · have hii : i2 ≠ i1 := fun q => hx (by rw [← di1, ← di2, q])
        rw [if_neg hii] at huf
        have hE0 : tyE x x2 (p + 1 + sz m + sz a) = .inl (p + 1 + sz m + sz a) := if_neg hx
        refine ⟨c3, M3, widen B123 (by rw [sz_C]; omega) (by rw [sz_C]; omega), fun q => ?_, Or.inl ⟨p + 1 + sz m + sz a, by omega, by rw [tyC0, ty2, sbd_r, ty3, sbd_r, hE0], e0.trans (go1'.trans (go2'.trans (go3'.trans (ak_bad L3 (B123.wk hw) k hK4 g3 (by omega) huf))))⟩⟩
        obtain ⟨u1, u2⟩ := nMAB q
        exact ⟨u1, widen8 u2 (by rw [sz_C]; omega)⟩
    · have tyC0 : ty (hF Hl) (tC m a b) p G d = .inl (p + 1) := by
        rw [ty_C, ty1, sbd_r, dO_no hs]
        rfl
      refine ⟨c1, M1, widen B1 (by rw [sz_C]; omega) (by rw [sz_C]; omega), fun q => ?_, Or.inl ⟨p + 1, by omega, tyC0, e0.trans (bad1 trivial hs)⟩⟩
      obtain ⟨u1, u2⟩ := nM' q
      exact ⟨u1, widen8 u2 (by rw [sz_C]; omega)⟩
/-- ASK: where it is told wrongly, or what all nodes prove -/
theorem c_ask {M : Mem} {t : Tm} (ht : isT t) (hL : LtC M tr c (rws t)) (hTb : TabC M c) (hH : HyC M 10 c Hl) (hE : Ed M t 0) {A : Nat → Nat} (hY : Ly M t 0 0 (-1) 0 1 A) (hw : wkC M (wk t 0 0)) (hsc : scp t 0) (hsh : shp Hl.length t) {G : Nat → Fm} (hrm : c + sz t ≤ 5200 ∨ ∃ x, Wt (fun _ f => Inn M c f) Hl.length (hF Hl) t 0 G 0 x) (k : Nat) : ∃ c1 M1, AkB M c M1 c1 0 (sz t) (sz t) ∧ ((∃ x, Wt (fun _ f => Inn M c f) Hl.length (hF Hl) t 0 G 0 x) → c1 = c ∧ Fr8 0 (sz t) M M1) ∧ ((∃ e, e < 1000 ∧ ty (hF Hl) t 0 G 0 = .inl e ∧ f_X3_ask (k + 3) 40 M = some (nI e, M1)) ∨ ∃ x, ty (hF Hl) t 0 G 0 = .inr x ∧ Wt (TyQ M1 c1) Hl.length (hF Hl) t 0 G 0 x ∧ f_X3_ask (k + 3) 40 M = some (-1, M1)) := by
  have hI : AkI M tr c (rws t) Hl t 0 0 (-1) 0 1 A G False 0 0 (wk t 0 0) := ⟨hL, hTb, hH, Sb.self, hE, hY, hsc, hsh, Nat.le_refl _, Or.inl ⟨rfl, fun q => q⟩, fun j hj => by omega, hw, ⟨[], [], by simp, rfl⟩, hrm⟩
  obtain ⟨c1, M1, B1, n1, res⟩ := ak_main k t ht hI
  rw [Nat.zero_add] at B1 n1
  have e0 : f_X3_ask (k + 3) 40 M = lp (st_X3_ask (k + 3)) (2, [.ref 40, .int (nI 0)], M) := (ge_X3_ask_0 (k + 3) 40 M).trans rfl
  refine ⟨c1, M1, B1, n1, ?_⟩
  rcases res with ⟨e, he, te, le⟩ | ⟨x, tx, wx, -, go⟩
  · exact Or.inl ⟨e, he, te, e0.trans le⟩
  · refine Or.inr ⟨x, tx, wx, e0.trans ((go (fun q => q.elim)).trans ?_)⟩
    have hw1 := B1.wk hw
    have hW1 := (B1.lt hL).1
    have h4 := hw1.2.1
    rw [Nat.zero_add]
    refine (ge_X3_ask_2 (k + 3) 40 _ M1).trans ?_
    have hO : fO M1 40 3 := ⟨by rw [hW1.1]; omega, s_40 hW1⟩
    unfold T_X3_ask_2
    simp (disch := omega) only [↓reduceIte, ↓gd_pos hO, hw1.1, nI_le_, Nat.le_refl]
end AKT
