/-! ASKS in the reference, along the tree -/
section RT
variable {l : List (Nat × Tm)} {Hl : List (Nat × Fm)} {c0 : Nat} {CI : Fm → Prop}
def AqI (M : Mem) (c : Nat) (l : List (Nat × Tm)) (Hl : List (Nat × Fm)) (c0 : Nat) (CI : Fm → Prop) (t : Tm) (p d : Nat) (G : Nat → Fm) : Prop := Wd M ∧ TabR M c ∧ WrkR M c l ∧ HyS M c Hl ∧ Sb l p t ∧ scp t d ∧ shp Hl.length t ∧ d ≤ p ∧ M.2.2.1 89 43 = nI p ∧ M.2.2.1 89 30 = 0 ∧ EvR M c d G ∧ (c + sz t ≤ 16384 ∨ (NewR M c c0 CI ∧ ∃ x, Wt (fun _ f => CI f) Hl.length (hF Hl) t p G d x))
def AqO (n : Nat) (M : Mem) (c : Nat) (l : List (Nat × Tm)) (Hl : List (Nat × Fm)) (c0 : Nat) (CI : Fm → Prop) (t : Tm) (p d : Nat) (G : Nat → Fm) : Prop := ∃ v c1 M1, f_X11_asks n 89 (nI d) M = some (v, M1) ∧ AqB M c M1 c1 p (p + sz t) d (sz t) ∧ (NewR M c c0 CI → (∃ x, Wt (fun _ f => CI f) Hl.length (hF Hl) t p G d x) → NewR M1 c1 c0 CI) ∧ ((∃ e, e < l.length ∧ ty (hF Hl) t p G d = .inl e ∧ M1.2.2.1 89 30 = 5 ∧ M1.2.2.1 89 31 = M.2.2.1 110 e) ∨ ∃ x u, ty (hF Hl) t p G d = .inr x ∧ v = nI u ∧ u < c1 ∧ dR M1 u = x ∧ M1.2.2.1 89 30 = 0 ∧ M1.2.2.1 89 31 = M.2.2.1 89 31 ∧ M1.2.2.1 89 43 = nI (p + sz t) ∧ Wt (TyR M1 c1) Hl.length (hF Hl) t p G d x ∧ DpR M1 t p d)
theorem five_ne : ¬ ((5 : Int32) = 0) := by decide
theorem fl_31 (M : Mem) (i : Nat) : (flM M i).2.2.1 89 31 = M.2.2.1 110 i := by simp [up2_if]
/-- the node is done with -/
theorem rq_bad {n : Nat} {M M2 : Mem} {c c2 p d z e : Nat} {t : Tm} {G : Nat → Fm} {v : Int32} (hW : Wd M) (h0 : M.2.2.1 89 30 = 0) (hat : M.2.2.1 89 43 = nI p) (hp : p < 400) (hk : f_X11_provenBy n 89 (nI p) (nI d) (wI (wI M 89 43 (nI (p + 1))) 114 p (nI d)) = some (v, M2)) (B : AqB M c M2 c2 p (p + sz t) d z) (hz : z ≤ sz t) (hs : 0 < sz t) (hN : NewR M c c0 CI → (∃ x, Wt (fun _ f => CI f) Hl.length (hF Hl) t p G d x) → NewR M2 c2 c0 CI) (he : e < l.length) (hty : ty (hF Hl) t p G d = .inl e) (h5 : M2.2.2.1 89 30 = 5) (h31 : M2.2.2.1 89 31 = M.2.2.1 110 e) : AqO (n + 1) M c l Hl c0 CI t p d G := by
  have hW2 := B.wd hW
  refine ⟨v, c2, wI M2 113 p v, ra_go hW n h0 hat hp hk hW2, ?_, fun a b => (hN a b).mv (fun _ _ => rfl), Or.inl ⟨e, he, hty, by simp [up2_if, h5], by simp [up2_if, h31]⟩⟩
  have B2 := B.w (a := 113) (k := p) v (Or.inr (Or.inl ⟨Or.inl rfl, Nat.le_refl _, by omega⟩))
  exact ⟨B2.1, B2.2.1, B2.2.2.1, by have := B2.2.2.2.1; omega, B2.2.2.2.2⟩
theorem rq_good {n : Nat} {M M2 : Mem} {c c2 p d z u : Nat} {t : Tm} {x : Fm} {G : Nat → Fm} (hW : Wd M) (h0 : M.2.2.1 89 30 = 0) (hat : M.2.2.1 89 43 = nI p) (hp : p < 400) (hk : f_X11_provenBy n 89 (nI p) (nI d) (wI (wI M 89 43 (nI (p + 1))) 114 p (nI d)) = some (nI u, M2)) (B : AqB M c M2 c2 p (p + sz t) d z) (hz : z ≤ sz t) (hs : 0 < sz t) (hN : NewR M c c0 CI → (∃ x, Wt (fun _ f => CI f) Hl.length (hF Hl) t p G d x) → NewR M2 c2 c0 CI) (hu : u < c2) (hx : dR M2 u = x) (hty : ty (hF Hl) t p G d = .inr x) (h30 : M2.2.2.1 89 30 = 0) (h31 : M2.2.2.1 89 31 = M.2.2.1 89 31) (h43 : M2.2.2.1 89 43 = nI (p + sz t)) (hWt : ∀ M3, TyR M3 c2 p x → AqB M2 c2 M3 c2 p (p + 1) d 0 → M3.2.2.1 114 = M2.2.2.1 114 → Wt (TyR M3 c2) Hl.length (hF Hl) t p G d x ∧ DpR M3 t p d) : AqO (n + 1) M c l Hl c0 CI t p d G := by
  have hW2 := B.wd hW
  have d2 : dR (wI M2 113 p (nI u)) = dR M2 := rfl
  obtain ⟨w1, w2⟩ := hWt (wI M2 113 p (nI u)) ⟨u, hu, by simp [up2_if], by rw [d2]; exact hx⟩ ((AqB.refl B.2.1).w _ (Or.inr (Or.inl ⟨Or.inl rfl, Nat.le_refl _, by omega⟩))) (by funext j; simp [up2_if])
  refine ⟨nI u, c2, wI M2 113 p (nI u), ra_go hW n h0 hat hp hk hW2, ?_, fun a b => (hN a b).mv (fun _ _ => rfl), Or.inr ⟨x, u, hty, rfl, hu, by rw [d2]; exact hx, by simp [up2_if, h30], by simp [up2_if, h31], by simp [up2_if, h43], w1, w2⟩⟩
  have B2 := B.w (a := 113) (k := p) (nI u) (Or.inr (Or.inl ⟨Or.inl rfl, Nat.le_refl _, by omega⟩))
  exact ⟨B2.1, B2.2.1, B2.2.2.1, by have := B2.2.2.2.1; omega, B2.2.2.2.2⟩
set_option maxHeartbeats 4000000 in
theorem rq_main (hcap : ∀ (M : Mem) (c : Nat), TabR M c → NewR M c c0 CI → c < 16384) : ∀ t, isT t → ∀ {n : Nat}, 2 * sz t + 3 ≤ n → ∀ {M : Mem} {c p d : Nat} {G : Nat → Fm}, AqI M c l Hl c0 CI t p d G → AqO n M c l Hl c0 CI t p d G := by
  apply tm_ind
  · intro j n hn M c p d G h
    obtain ⟨hW, hT, hR, hH, hS, hsc, hsh, hd, hat, h30, hE, hrm⟩ := h
    obtain ⟨g1, g2, g3⟩ := opl_of hS.L
    have h4 := hR.2.1
    replace hsc : j < d := hsc
    rw [sz_L] at hn
    obtain ⟨N, rfl⟩ : ∃ N, n = N + 2 := ⟨n - 2, by omega⟩
    have B0 : AqB M c (wI (wI M 89 43 (nI (p + 1))) 114 p (nI d)) c p (p + sz (tL j)) d 0 := ((AqB.refl hT).w _ (Or.inl ⟨rfl, by omega⟩)).w _ (Or.inr (Or.inl ⟨Or.inr rfl, Nat.le_refl _, by rw [sz_L]; omega⟩))
    obtain ⟨u, hu, e1, e2⟩ := hE j hsc
    have hp := rp_L (B0.wd hW) (B0.wr hR) N g3 g1 g2 (by omega) (nI d)
    rw [show (wI (wI M 89 43 (nI (p + 1))) 114 p (nI d)).2.2.1 115 j = nI u by simp [up2_if, e1]] at hp
    refine rq_good (n := N + 1) (M2 := wI (wI M 89 43 (nI (p + 1))) 114 p (nI d)) hW h30 hat (by omega) hp B0 (by omega) (by rw [sz_L]; omega) (fun a _ => a.mv (fun _ _ => rfl)) hu e2 ty_L (by simp [up2_if, h30]) (by simp [up2_if]) (by simp [up2_if, sz_L]) (fun M3 q1 q2 q3 => ⟨⟨hsc, rfl, q1⟩, ?_⟩)
    show M3.2.2.1 114 p = nI d
    rw [q3]
    simp [up2_if]
  · intro j n hn M c p d G h
    obtain ⟨hW, hT, hR, hH, hS, hsc, hsh, hd, hat, h30, hE, hrm⟩ := h
    obtain ⟨g1, g2, g3⟩ := opl_of hS.H
    have h4 := hR.2.1
    replace hsh : j < Hl.length := hsh
    have h6 := hH.1
    rw [sz_H] at hn
    obtain ⟨N, rfl⟩ : ∃ N, n = N + 2 := ⟨n - 2, by omega⟩
    have B0 : AqB M c (wI (wI M 89 43 (nI (p + 1))) 114 p (nI d)) c p (p + sz (tH j)) d 0 := ((AqB.refl hT).w _ (Or.inl ⟨rfl, by omega⟩)).w _ (Or.inr (Or.inl ⟨Or.inr rfl, Nat.le_refl _, by rw [sz_H]; omega⟩))
    obtain ⟨u, hu, e1, e2⟩ := hH.2 j hsh
    have hp := rp_H (B0.wd hW) (B0.wr hR) N g3 g1 g2 (by omega) (nI d)
    rw [show (wI (wI M 89 43 (nI (p + 1))) 114 p (nI d)).2.2.1 98 j = nI u by simp [up2_if, e1]] at hp
    rw [← hF_at hsh] at e2
    refine rq_good (n := N + 1) (M2 := wI (wI M 89 43 (nI (p + 1))) 114 p (nI d)) hW h30 hat (by omega) hp B0 (by omega) (by rw [sz_H]; omega) (fun a _ => a.mv (fun _ _ => rfl)) hu e2 ty_H (by simp [up2_if, h30]) (by simp [up2_if]) (by simp [up2_if, sz_H]) (fun M3 q1 q2 q3 => ⟨⟨hsh, rfl, q1⟩, ?_⟩)
    show M3.2.2.1 114 p = nI d
    rw [q3]
    simp [up2_if]
  · intro o f a ho hta ih n hn M c p d G h
    obtain ⟨hW, hT, hR, hH, hS, hsc, hsh, hd, hat, h30, hE, hrm⟩ := h
    obtain ⟨g, sa⟩ := hS.U
    obtain ⟨g1, g2, g3⟩ := opl_of g
    have h4 := hR.2.1
    have hle := sa.le
    have psa := sz_pos a hta
    have hor := ho.rng
    rw [sz_U] at hn
    obtain ⟨N, rfl⟩ : ∃ N, n = N + 3 := ⟨n - 3, by omega⟩
    have B0 : AqB M c (wI (wI M 89 43 (nI (p + 1))) 114 p (nI d)) c p (p + sz (tU o f a)) d 0 := ((AqB.refl hT).w _ (Or.inl ⟨rfl, by omega⟩)).w _ (Or.inr (Or.inl ⟨Or.inr rfl, Nat.le_refl _, by rw [sz_U]; omega⟩))
    obtain ⟨M', hM'⟩ : ∃ M', M' = wI (wI M 89 43 (nI (p + 1))) 114 p (nI d) := ⟨_, rfl⟩
    have m43 : M'.2.2.1 89 43 = nI (p + 1) := by rw [hM']; simp [up2_if]
    have m30 : M'.2.2.1 89 30 = 0 := by rw [hM']; simp [up2_if, h30]
    have m31 : M'.2.2.1 89 31 = M.2.2.1 89 31 := by rw [hM']; simp [up2_if]
    have m110 : M'.2.2.1 110 = M.2.2.1 110 := by rw [hM']; funext j; simp [up2_if]
    have m114 : M'.2.2.1 114 p = nI d := by rw [hM']; simp [up2_if]
    have md : dR M' = dR M := by rw [hM']; rfl
    rw [← hM'] at B0
    have hW' := B0.wd hW
    have hR' := B0.wr hR
    have hH' := B0.hy hH
    have hE' := B0.ev hE (Nat.le_refl _)
    have hz1 : sz (tU o f a) = sz a + 1 := sz_U
    by_cases h2 : o = 2
    · subst h2
      obtain ⟨i, hi, ei, di⟩ := hR'.told g3 (Or.inl g1)
      rw [g2] at di
      have Bk : AqB M c (wI M' 115 d (M'.2.2.1 106 p)) c p (p + sz (tU 2 f a)) d 0 := B0.w _ (Or.inr (Or.inr ⟨rfl, Nat.le_refl _⟩))
      have hI : AqI (wI M' 115 d (M'.2.2.1 106 p)) c l Hl c0 CI a (p + 1) (d + 1) (ups G d f) := by
        refine ⟨Bk.wd hW, Bk.2.1, Bk.wr hR, Bk.hy hH, sa, hsc, hsh, by omega, by simp [up2_if, m43], by simp [up2_if, m30], (Bk.ev hE (Nat.le_refl _)).up hi (by simp [up2_if, ei]) di, ?_⟩
        rcases hrm with q | ⟨q, x, w⟩
        · exact Or.inl (by omega)
        · obtain ⟨-, y, w1, -⟩ := w
          exact Or.inr ⟨q.mv Bk.2.2.2.2, y, w1⟩
      obtain ⟨v, c1, M1, ek, B1, nB, res⟩ := ih (n := N + 1) (by omega) hI
      have hW1 := B1.wd (Bk.wd hW)
      have BB : AqB M c M1 c1 p (p + sz (tU 2 f a)) d (sz a) := Bk.trans B1 (Nat.le_refl _) (Nat.le_refl _) (by omega) (by omega) (Nat.le_refl _) (by omega) (by omega)
      have nB' : NewR M c c0 CI → (∃ x, Wt (fun _ f => CI f) Hl.length (hF Hl) (tU 2 f a) p G d x) → NewR M1 c1 c0 CI := fun q ⟨x, w⟩ => by
        obtain ⟨-, y, w1, -⟩ := w
        exact nB (q.mv Bk.2.2.2.2) ⟨y, w1⟩
      rcases res with ⟨e, he, te, l30, l31⟩ | ⟨y, u, te, hv, hu, du, l30, l31, l43, w1, dp1⟩
      · have hp := (rp_fun (M2 := M1) hW' hR' g3 g1 (by omega) ek hW1).1 (by rw [l30]; exact five_ne)
        rw [hM'] at hp
        refine rq_bad (n := N + 2) (e := e) hW h30 hat (by omega) hp BB (by omega) (by omega) nB' he (by rw [ty_U]; exact congrArg (sbd · _) te) l30 ?_
        rw [l31]
        show M'.2.2.1 110 e = _
        rw [m110]
      · have hi1 : M1.2.2.1 106 p = nI i := by
          rw [B1.int (by omega) (by omega) (by omega) (by omega)]
          simp [up2_if, ei]
        have di1 : dR M1 i = f := (B1.2.2.2.2 i hi).trans di
        have hc1 := B1.2.2.1
        have hroom : c1 < 16384 ∨ (NewR M1 c1 c0 CI ∧ CI (.add f y)) := by
          rcases hrm with q | ⟨q, x, w⟩
          · have := BB.2.2.2.1
            exact Or.inl (by omega)
          · obtain ⟨qx, y', w', r'⟩ := w
            refine Or.inr ⟨nB' q ⟨x, qx, y', w', r'⟩, ?_⟩
            have ey := w1.fn a hta w'
            subst ey
            have : x = .add f y := r'.fn (Or.inl ⟨rfl, rfl⟩)
            rw [← this]
            exact qx
        obtain ⟨w, c2, M2, ef, hw2, dw2, B2, nN, k30, k31, k43, k113, k114⟩ := rf_make hW1 BB.2.1 (N + 1) (x := 9) (y := M1.2.2.1 106 p) (z := v) (f := .add f y) (Or.inr ⟨9, i, u, by omega, by omega, by omega, hu, rfl, hi1, hv, by rw [di1, du]; rfl⟩) hcap hroom p (p + sz (tU 2 f a)) d
        have hp := (rp_fun (M2 := M2) hW' hR' g3 g1 (by omega) ek hW1).2 l30 (nI w) ef
        rw [hM'] at hp
        have hr : rU 2 f y (.add f y) := Or.inl ⟨rfl, rfl⟩
        refine rq_good (n := N + 2) hW h30 hat (by omega) hp (BB.trans B2 (Nat.le_refl _) (Nat.le_refl _) (Nat.le_refl _) (Nat.le_refl _) (Nat.le_refl _) (Nat.le_refl _) (Nat.le_refl _)) (by omega) (by omega) (fun q ⟨x, wx⟩ => ?_) hw2 dw2 (by rw [ty_U]; exact (congrArg (sbd · _) te).trans (tyU_ok hr)) (k30.trans l30) ?_ ?_ (fun M3 t1 t2 t3 => ?_)
        · obtain ⟨qx, y', w', r'⟩ := wx
          refine nN (nB' q ⟨x, qx, y', w', r'⟩) ?_
          have ey := w1.fn a hta w'
          subst ey
          rw [← r'.fn hr]
          exact qx
        · rw [k31, l31]
          exact m31
        · rw [k43, l43, hz1, show p + 1 + sz a = p + (sz a + 1) by omega]
        · have w2 : Wt (TyR M2 c2) Hl.length (hF Hl) a (p + 1) (ups G d f) (d + 1) y := w1.imp a hta (fun j y h1 h2 q => q.up (by rw [k113]) B2.2.2.2.2 B2.2.2.1)
          have dp2 : DpR M2 a (p + 1) (d + 1) := dp1.congr a hta (fun j h1 h2 => by rw [k114])
          refine ⟨⟨t1, y, t2.wt hta w2 (Or.inr (Nat.le_refl _)), hr⟩, ?_, t2.dp hta dp2 (Or.inr (Nat.le_refl _))⟩
          rw [t3, k114, B1.in113 (Or.inr rfl) (by omega)]
          simp [up2_if, m114]
    · have hz : amN o 0 = 0 := by
        unfold amN
        rw [if_neg h2, if_neg (by omega)]
      have hI : AqI M' c l Hl c0 CI a (p + 1) d G := by
        refine ⟨hW', B0.2.1, hR', hH', sa, by have := hsc; rw [scp, hz] at this; exact this, hsh, by omega, m43, m30, hE', ?_⟩
        rcases hrm with q | ⟨q, x, w⟩
        · exact Or.inl (by omega)
        · obtain ⟨-, y, w1, -⟩ := w
          rw [if_neg h2, hz] at w1
          exact Or.inr ⟨q.mv B0.2.2.2.2, y, w1⟩
      obtain ⟨v, c1, M1, ek, B1, nB, res⟩ := ih (n := N + 1) (by omega) hI
      have hW1 := B1.wd hW'
      have BB : AqB M c M1 c1 p (p + sz (tU o f a)) d (sz a) := B0.trans B1 (Nat.le_refl _) (Nat.le_refl _) (by omega) (by omega) (Nat.le_refl _) (by omega) (by omega)
      have nB' : NewR M c c0 CI → (∃ x, Wt (fun _ f => CI f) Hl.length (hF Hl) (tU o f a) p G d x) → NewR M1 c1 c0 CI := fun q ⟨x, w⟩ => by
        obtain ⟨-, y, w1, -⟩ := w
        rw [if_neg h2, hz] at w1
        exact nB (q.mv B0.2.2.2.2) ⟨y, w1⟩
      have ek1 : M1.2.2.1 105 p = M'.2.2.1 105 p := B1.int (by omega) (by omega) (by omega) (by omega)
      have ety : ty (hF Hl) (tU o f a) p G d = sbd (ty (hF Hl) a (p + 1) G d) (fun x => tyU o f x (p + 1)) := by
        rw [ty_U, if_neg h2, hz]
        rfl
      have hcl := BB.2.1.2.1
      rcases res with ⟨e, he, te, l30, l31⟩ | ⟨y, u, te, hv, hu, du, l30, l31, l43, w1, dp1⟩
      · have l30' : ¬ M1.2.2.1 89 30 = 0 := by rw [l30]; exact five_ne
        have hp : f_X11_provenBy (N + 2) 89 (nI p) (nI d) M' = some (0, M1) := by
          by_cases h56 : o = 5 ∨ o = 6
          · exact (rp_prj hW' hR' g3 (by rw [g1]; exact h56) ek hW1 ek1 m43).1 l30'
          · by_cases h78 : o = 7 ∨ o = 8
            · exact (rp_inj (M2 := M1) hW' hR' g3 (by rw [g1]; exact h78) ek hW1 ek1).1 l30'
            · exact (rp_abort hW' hR' g3 (by rw [g1]; omega) ek hW1 ek1 m43).1 l30'
        rw [hM'] at hp
        refine rq_bad (n := N + 2) (e := e) hW h30 hat (by omega) hp BB (by omega) (by omega) nB' he (by rw [ety, te, sbd_l]) l30 ?_
        rw [l31, m110]
      · have fin : ∀ (x : Fm) (w : Nat), rU o f y x → w < c1 → dR M1 w = x → f_X11_provenBy (N + 2) 89 (nI p) (nI d) M' = some (nI w, M1) → AqO (N + 3) M c l Hl c0 CI (tU o f a) p d G := by
          intro x w hr hw dw hp
          rw [hM'] at hp
          refine rq_good (n := N + 2) hW h30 hat (by omega) hp BB (by omega) (by omega) nB' hw dw (by rw [ety, te, sbd_r]; exact tyU_ok hr) l30 (l31.trans m31) (by rw [l43, hz1, show p + 1 + sz a = p + (sz a + 1) by omega]) (fun M3 t1 t2 t3 => ?_)
          refine ⟨⟨t1, y, ?_, hr⟩, ?_, ?_⟩
          · rw [if_neg h2, hz]
            exact t2.wt hta w1 (Or.inr (Nat.le_refl _))
          · rw [t3, B1.in113 (Or.inr rfl) (by omega), m114]
          · rw [hz]
            exact t2.dp hta dp1 (Or.inr (Nat.le_refl _))
        have bad : (∀ x, ¬ rU o f y x) → f_X11_provenBy (N + 2) 89 (nI p) (nI d) M' = some (0, flM M1 (p + 1)) → AqO (N + 3) M c l Hl c0 CI (tU o f a) p d G := by
          intro hn hp
          rw [hM'] at hp
          have B2 : AqB M c (flM M1 (p + 1)) c1 p (p + sz (tU o f a)) d (sz a) := (BB.w _ (Or.inl ⟨rfl, by omega⟩)).w _ (Or.inl ⟨rfl, by omega⟩)
          refine rq_bad (n := N + 2) (e := p + 1) hW h30 hat (by omega) hp B2 (by omega) (by omega) (fun a b => (nB' a b).mv (fun _ _ => rfl)) (by omega) (by rw [ety, te, sbd_r]; exact tyU_no hn) (by simp [up2_if]) ?_
          rw [fl_31, B1.int (by omega) (by omega) (by omega) (by omega), m110]
        obtain ⟨k1, k2, k3⟩ := BB.2.1.kd hu
        rw [du] at k1 k2 k3
        by_cases h56 : o = 5 ∨ o = 6
        · obtain ⟨p1, p2⟩ := (rp_prj hW' hR' g3 (by rw [g1]; exact h56) ek hW1 ek1 m43).2 u (by omega) hv l30
          by_cases h10 : kdf y = 10
          · obtain ⟨x1, x2, exy⟩ := kdf_of (j := 10) (by omega) (by omega) h10 k3
            obtain ⟨b1, b2, hb1, hb2, m1, m2, e1, e2⟩ := BB.2.1.two hu (j := 10) (by omega) (by omega) (du.trans exy)
            have hp := p1 (by rw [k1, h10]; rfl)
            rw [g1] at hp
            rcases h56 with h5 | h6
            · rw [if_pos h5, m1] at hp
              exact fin x1 b1 (Or.inr (Or.inl ⟨h5, x2, exy⟩)) hb1 e1 hp
            · rw [if_neg (by omega), m2] at hp
              exact fin x2 b2 (Or.inr (Or.inr (Or.inl ⟨h6, x1, exy⟩))) hb2 e2 hp
          · refine bad (fun x hr => ?_) (p2 (by omega) (fun q => h10 ?_))
            · rcases hr with hr | ⟨-, w, hr⟩ | ⟨-, w, hr⟩ | hr | hr | hr
              · omega
              · rw [hr] at h10; exact h10 rfl
              · rw [hr] at h10; exact h10 rfl
              · omega
              · omega
              · omega
            · rw [k1] at q
              exact (nI_eq (b := 10) (by omega) (by omega)).mp q
        · by_cases h78 : o = 7 ∨ o = 8
          · have htf : tf o := by unfold tf; omega
            obtain ⟨i, hi, ei, di⟩ := (BB.wr hR).told g3 (by rw [g1]; exact htf)
            rw [g2] at di
            obtain ⟨x, hxr, hxe⟩ : ∃ x, rU o f y x ∧ x = if o = 7 then Jvm.Term.sub y f else Jvm.Term.sub f y := by
              rcases h78 with h7 | h8
              · exact ⟨.sub y f, Or.inr (Or.inr (Or.inr (Or.inl ⟨h7, rfl⟩))), by rw [if_pos h7]⟩
              · exact ⟨.sub f y, Or.inr (Or.inr (Or.inr (Or.inr (Or.inl ⟨h8, rfl⟩)))), by rw [if_neg (by omega)]⟩
            have hroom : c1 < 16384 ∨ (NewR M1 c1 c0 CI ∧ CI x) := by
              rcases hrm with q | ⟨q, x', w⟩
              · have := BB.2.2.2.1
                exact Or.inl (by omega)
              · obtain ⟨qx, y', w', r'⟩ := w
                refine Or.inr ⟨nB' q ⟨x', qx, y', w', r'⟩, ?_⟩
                rw [if_neg h2, hz] at w'
                have ey := w1.fn a hta w'
                subst ey
                rw [← r'.fn hxr]
                exact qx
            have hFO : FOk M1 c1 11 (if opl l p = 7 then v else M1.2.2.1 106 p) (if opl l p = 7 then M1.2.2.1 106 p else v) x := by
              rw [g1]
              by_cases h7 : o = 7
              · rw [if_pos h7, if_pos h7, hxe, if_pos h7]
                exact Or.inr ⟨11, u, i, by omega, by omega, hu, hi, rfl, hv, ei, by rw [di, du]; rfl⟩
              · rw [if_neg h7, if_neg h7, hxe, if_neg h7]
                exact Or.inr ⟨11, i, u, by omega, by omega, hi, hu, rfl, ei, hv, by rw [di, du]; rfl⟩
            obtain ⟨w, c2, M2, ef, hw2, dw2, B2, nN, j30, j31, j43, j113, j114⟩ := rf_make hW1 BB.2.1 (N + 1) hFO hcap hroom p (p + sz (tU o f a)) d
            have hp := (rp_inj (M2 := M2) hW' hR' g3 (by rw [g1]; exact h78) ek hW1 ek1).2 l30 (nI w) ef
            rw [hM'] at hp
            refine rq_good (n := N + 2) hW h30 hat (by omega) hp (BB.trans B2 (Nat.le_refl _) (Nat.le_refl _) (Nat.le_refl _) (Nat.le_refl _) (Nat.le_refl _) (Nat.le_refl _) (Nat.le_refl _)) (by omega) (by omega) (fun q ⟨x', wx⟩ => ?_) hw2 dw2 (by rw [ety, te, sbd_r]; exact tyU_ok hxr) (j30.trans l30) ?_ ?_ (fun M3 t1 t2 t3 => ?_)
            · obtain ⟨qx, y', w', r'⟩ := wx
              refine nN (nB' q ⟨x', qx, y', w', r'⟩) ?_
              rw [if_neg h2, hz] at w'
              have ey := w1.fn a hta w'
              subst ey
              rw [← r'.fn hxr]
              exact qx
            · rw [j31, l31]
              exact m31
            · rw [j43, l43, hz1, show p + 1 + sz a = p + (sz a + 1) by omega]
            · have w2 : Wt (TyR M2 c2) Hl.length (hF Hl) a (p + 1) G d y := w1.imp a hta (fun j y h1 h2 q => q.up (by rw [j113]) B2.2.2.2.2 B2.2.2.1)
              have dp2 : DpR M2 a (p + 1) d := dp1.congr a hta (fun j h1 h2 => by rw [j114])
              refine ⟨⟨t1, y, ?_, hxr⟩, ?_, ?_⟩
              · rw [if_neg h2, hz]
                exact t2.wt hta w2 (Or.inr (Nat.le_refl _))
              · rw [t3, j114, B1.in113 (Or.inr rfl) (by omega), m114]
              · rw [hz]
                exact t2.dp hta dp2 (Or.inr (Nat.le_refl _))
          · have h10 : o = 10 := by omega
            obtain ⟨p1, p2⟩ := (rp_abort hW' hR' g3 (by rw [g1]; exact h10) ek hW1 ek1 m43).2 u (by omega) hv l30
            by_cases h8 : kdf y = 8
            · have hy : y = .arg 8 := by
                cases y with
                | arg k => rw [show k = 8 from h8]
                | add _ _ => exact absurd (show 9 = 8 from h8) (by decide)
                | mul _ _ => exact absurd (show 10 = 8 from h8) (by decide)
                | sub _ _ => exact absurd (show 11 = 8 from h8) (by decide)
                | _ => exact absurd (show 12 = 8 from h8) (by decide)
              obtain ⟨i, hi, ei, di⟩ := (BB.wr hR).told g3 (by rw [g1]; exact Or.inr (Or.inr (Or.inr h10)))
              rw [g2] at di
              have hp := p1 (by rw [k1, h8]; rfl)
              rw [ei] at hp
              exact fin f i (Or.inr (Or.inr (Or.inr (Or.inr (Or.inr ⟨h10, hy, rfl⟩))))) hi di hp
            · refine bad (fun x hr => ?_) (p2 (by omega) (fun q => h8 ?_))
              · rcases hr with hr | hr | hr | hr | hr | ⟨-, hr, -⟩
                · omega
                · omega
                · omega
                · omega
                · omega
                · rw [hr] at h8; exact h8 rfl
              · rw [k1] at q
                exact (nI_eq (b := 8) (by omega) (by omega)).mp q
  · intro o a b ho hta htb ia ib n hn M c p d G h
    obtain ⟨hW, hT, hR, hH, hS, hsc, hsh, hd, hat, h30, hE, hrm⟩ := h
    obtain ⟨g, sa, sb⟩ := hS.B
    obtain ⟨g1, g2, g3⟩ := opl_of g
    have h4 := hR.2.1
    have hle := sb.le
    have psa := sz_pos a hta
    have psb := sz_pos b htb
    have hz1 : sz (tB o a b) = sz a + sz b + 1 := sz_B
    rw [hz1] at hn
    obtain ⟨N, rfl⟩ : ∃ N, n = N + 3 := ⟨n - 3, by omega⟩
    have B0 : AqB M c (wI (wI M 89 43 (nI (p + 1))) 114 p (nI d)) c p (p + sz (tB o a b)) d 0 := ((AqB.refl hT).w _ (Or.inl ⟨rfl, by omega⟩)).w _ (Or.inr (Or.inl ⟨Or.inr rfl, Nat.le_refl _, by omega⟩))
    obtain ⟨M', hM'⟩ : ∃ M', M' = wI (wI M 89 43 (nI (p + 1))) 114 p (nI d) := ⟨_, rfl⟩
    have m43 : M'.2.2.1 89 43 = nI (p + 1) := by rw [hM']; simp [up2_if]
    have m30 : M'.2.2.1 89 30 = 0 := by rw [hM']; simp [up2_if, h30]
    have m31 : M'.2.2.1 89 31 = M.2.2.1 89 31 := by rw [hM']; simp [up2_if]
    have m110 : M'.2.2.1 110 = M.2.2.1 110 := by rw [hM']; funext j; simp [up2_if]
    have m114 : M'.2.2.1 114 p = nI d := by rw [hM']; simp [up2_if]
    rw [← hM'] at B0
    have hW' := B0.wd hW
    have hR' := B0.wr hR
    have hIa : AqI M' c l Hl c0 CI a (p + 1) d G := by
      refine ⟨hW', B0.2.1, hR', B0.hy hH, sa, hsc.1, hsh.1, by omega, m43, m30, B0.ev hE (Nat.le_refl _), ?_⟩
      rcases hrm with q | ⟨q, x, w⟩
      · exact Or.inl (by omega)
      · obtain ⟨-, y, z, w1, -⟩ := w
        exact Or.inr ⟨q.mv B0.2.2.2.2, y, w1⟩
    obtain ⟨v, c1, M1, ek, B1, nA, res⟩ := ia (n := N + 1) (by omega) hIa
    have hW1 := B1.wd hW'
    have BA : AqB M c M1 c1 p (p + sz (tB o a b)) d (sz a) := B0.trans B1 (Nat.le_refl _) (Nat.le_refl _) (by omega) (by omega) (Nat.le_refl _) (Nat.le_refl _) (by omega)
    have nA' : NewR M c c0 CI → (∃ x, Wt (fun _ f => CI f) Hl.length (hF Hl) (tB o a b) p G d x) → NewR M1 c1 c0 CI := fun q ⟨x, w⟩ => by
      obtain ⟨-, y, z, w1, -⟩ := w
      exact nA (q.mv B0.2.2.2.2) ⟨y, w1⟩
    have ek1 : M1.2.2.1 105 p = M'.2.2.1 105 p := B1.int (by omega) (by omega) (by omega) (by omega)
    have five : ∀ {M2 : Mem}, M2.2.2.1 89 30 = 5 → ¬ M2.2.2.1 89 30 = 0 := fun q => by rw [q]; exact five_ne
    -- both are asked: what the node proves
    have bad0 : ∀ {u : Int32} {M2 : Mem}, f_X11_asks (N + 1) 89 (nI d) M1 = some (u, M2) → Wd M2 → M2.2.2.1 89 30 = 5 → f_X11_provenBy (N + 2) 89 (nI p) (nI d) M' = some (0, M2) := by
      intro u M2 ek2 hW2 q
      rcases ho with h3 | h4
      · exact (rp_app (q := 0) hW' hR' g3 (by rw [g1]; exact h3) ek hW1 ek1 ek2 hW2 m43).1 (five q)
      · exact (rp_pair (M3 := M2) hW' hR' g3 (by rw [g1]; exact h4) ek hW1 ek1 ek2 hW2).1 (five q)
    rcases res with ⟨e, he, te, l30, l31⟩ | ⟨y, i, te, hv, hi, di, l30, l31, l43, w1, dp1⟩
    · have ek2 := ra_wr hW1 N (five l30) (nI d)
      have hp := bad0 ek2 hW1 l30
      rw [hM'] at hp
      refine rq_bad (n := N + 2) (e := e) hW h30 hat (by omega) hp BA (by omega) (by omega) nA' he (by rw [ty_B, te, sbd_l]) l30 ?_
      rw [l31, m110]
    have hIb : AqI M1 c1 l Hl c0 CI b (p + 1 + sz a) d G := by
      refine ⟨hW1, B1.2.1, BA.wr hR, BA.hy hH, sb, hsc.2, hsh.2, by omega, l43, l30, BA.ev hE (Nat.le_refl _), ?_⟩
      rcases hrm with q | ⟨q, x, w⟩
      · have := BA.2.2.2.1
        exact Or.inl (by omega)
      · have nq := nA' q ⟨x, w⟩
        obtain ⟨-, y', z', -, v', -⟩ := w
        exact Or.inr ⟨nq, z', v'⟩
    obtain ⟨u, c2, M2, ek2, B2, nB, res2⟩ := ib (n := N + 1) (by omega) hIb
    have hW2 := B2.wd hW1
    have BB : AqB M c M2 c2 p (p + sz (tB o a b)) d (sz a + sz b) := BA.trans B2 (Nat.le_refl _) (Nat.le_refl _) (by omega) (by omega) (Nat.le_refl _) (Nat.le_refl _) (Nat.le_refl _)
    have nB' : NewR M c c0 CI → (∃ x, Wt (fun _ f => CI f) Hl.length (hF Hl) (tB o a b) p G d x) → NewR M2 c2 c0 CI := fun q w => by
      have nq := nA' q w
      obtain ⟨x, -, y', z', -, v', -⟩ := w
      exact nB nq ⟨z', v'⟩
    rcases res2 with ⟨e, he, te2, k30, k31⟩ | ⟨z, j, te2, hu, hj, dj, k30, k31, k43, w2, dp2⟩
    · have hp := bad0 ek2 hW2 k30
      rw [hM'] at hp
      refine rq_bad (n := N + 2) (e := e) hW h30 hat (by omega) hp BB (by omega) (by omega) nB' he (by rw [ty_B, te, sbd_r, te2, sbd_l]) k30 ?_
      rw [k31, B1.int (by omega) (by omega) (by omega) (by omega), m110]
    have hcl := BB.2.1.2.1
    have hc12 := B2.2.2.1
    have di2 : dR M2 i = y := (B2.2.2.2.2 i hi).trans di
    have w1' : Wt (TyR M2 c2) Hl.length (hF Hl) a (p + 1) G d y := B2.wt hta w1 (Or.inl (Nat.le_refl _))
    have dp1' : DpR M2 a (p + 1) d := B2.dp hta dp1 (Or.inl (Nat.le_refl _))
    have ety : ∀ r, tyB o y z (p + 1) (p + 1 + sz a) = r → ty (hF Hl) (tB o a b) p G d = r := fun r q => by rw [ty_B, te, sbd_r, te2, sbd_r]; exact q
    have m31' : M2.2.2.1 89 31 = M.2.2.1 89 31 := k31.trans (l31.trans m31)
    have e114 : M2.2.2.1 114 p = nI d := by
      rw [B2.in113 (Or.inr rfl) (by omega), B1.in113 (Or.inr rfl) (by omega), m114]
    have e43 : M2.2.2.1 89 43 = nI (p + sz (tB o a b)) := by rw [k43, hz1, show p + 1 + sz a + sz b = p + (sz a + sz b + 1) by omega]
    rcases ho with h3 | h4'
    · obtain ⟨k1, k2, k3⟩ := BB.2.1.kd (show i < c2 by omega)
      rw [di2] at k1 k2 k3
      obtain ⟨-, p2⟩ := rp_app (q := p + 1 + sz a) hW' hR' g3 (by rw [g1]; exact h3) ek hW1 ek1 ek2 hW2 m43
      obtain ⟨p3, p4, p5⟩ := p2 i (by omega) hv k30
      by_cases h9 : kdf y = 9
      · obtain ⟨x1, x2, exy⟩ := kdf_of (j := 9) (by omega) (by omega) h9 k3
        obtain ⟨b1, b2, hb1, hb2, m1, m2, e1, e2⟩ := BB.2.1.two (show i < c2 by omega) (j := 9) (by omega) (by omega) (di2.trans exy)
        have h9' : M2.2.2.1 90 i = 9 := by rw [k1, h9]; rfl
        by_cases hjb : b1 = j
        · subst hjb
          have hp := p4 h9' (by rw [m1, hu])
          rw [m2, hM'] at hp
          have hxz : x1 = z := e1.symm.trans dj
          have hr : rB o y z x2 := Or.inl ⟨h3, by rw [exy, hxz]; rfl⟩
          refine rq_good (n := N + 2) hW h30 hat (by omega) hp BB (by omega) (by omega) nB' hb2 e2 (ety _ (tyB_ok hr)) k30 m31' e43 (fun M3 t1 t2 t3 => ⟨⟨t1, y, z, t2.wt hta w1' (Or.inr (Nat.le_refl _)), t2.wt htb w2 (Or.inr (by omega)), hr⟩, by rw [t3]; exact e114, t2.dp hta dp1' (Or.inr (Nat.le_refl _)), t2.dp htb dp2 (Or.inr (by omega))⟩)
        · have hne : ¬ M2.2.2.1 91 i = u := by
            rw [m1, hu]
            intro q
            exact hjb ((nI_eq (by omega) (by omega)).mp q)
          have hp := p5 h9' hne l43 (by omega)
          rw [hM'] at hp
          have hn : ∀ x, ¬ rB o y z x := fun x hr => by
            rcases hr with ⟨-, hr⟩ | hr
            · rw [exy] at hr
              have : mkF 9 x1 x2 = .add x1 x2 := rfl
              rw [this] at hr
              cases hr
              exact hjb (BB.2.1.inj hb1 hj (e1.trans dj.symm))
            · omega
          have B3 : AqB M c (flM M2 (p + 1 + sz a)) c2 p (p + sz (tB o a b)) d (sz a + sz b) := (BB.w _ (Or.inl ⟨rfl, by omega⟩)).w _ (Or.inl ⟨rfl, by omega⟩)
          refine rq_bad (n := N + 2) (e := p + 1 + sz a) hW h30 hat (by omega) hp B3 (by omega) (by omega) (fun a b => (nB' a b).mv (fun _ _ => rfl)) (by omega) (ety _ (by rw [tyB_no hn, if_pos ⟨h3, h9⟩])) (by simp [up2_if]) ?_
          rw [fl_31, B2.int (by omega) (by omega) (by omega) (by omega), B1.int (by omega) (by omega) (by omega) (by omega), m110]
      · have hp := p3 (by omega) (fun q => h9 (by rw [k1] at q; exact (nI_eq (b := 9) (by omega) (by omega)).mp q))
        rw [hM'] at hp
        have hn : ∀ x, ¬ rB o y z x := fun x hr => by
          rcases hr with ⟨-, hr⟩ | hr
          · rw [hr] at h9; exact h9 rfl
          · omega
        have B3 : AqB M c (flM M2 (p + 1)) c2 p (p + sz (tB o a b)) d (sz a + sz b) := (BB.w _ (Or.inl ⟨rfl, by omega⟩)).w _ (Or.inl ⟨rfl, by omega⟩)
        refine rq_bad (n := N + 2) (e := p + 1) hW h30 hat (by omega) hp B3 (by omega) (by omega) (fun a b => (nB' a b).mv (fun _ _ => rfl)) (by omega) (ety _ (by rw [tyB_no hn, if_neg (fun q => h9 q.2)])) (by simp [up2_if]) ?_
        rw [fl_31, B2.int (by omega) (by omega) (by omega) (by omega), B1.int (by omega) (by omega) (by omega) (by omega), m110]
    · have hr : rB o y z (.mul y z) := Or.inr ⟨h4', rfl⟩
      have hroom : c2 < 16384 ∨ (NewR M2 c2 c0 CI ∧ CI (.mul y z)) := by
        rcases hrm with q | ⟨q, x', w⟩
        · have := BB.2.2.2.1
          exact Or.inl (by omega)
        · refine Or.inr ⟨nB' q ⟨x', w⟩, ?_⟩
          obtain ⟨qx, y', z', w', v', r'⟩ := w
          have ey := w1.fn a hta w'
          have ez := w2.fn b htb v'
          subst ey ez
          rw [← r'.fn hr]
          exact qx
      obtain ⟨w, c3, M3, ef, hw3, dw3, B3, nN, j30, j31, j43, j113, j114⟩ := rf_make hW2 BB.2.1 (N + 1) (x := 10) (y := v) (z := u) (f := .mul y z) (Or.inr ⟨10, i, j, by omega, by omega, by omega, hj, rfl, hv, hu, by rw [di2, dj]; rfl⟩) hcap hroom p (p + sz (tB o a b)) d
      have hp := (rp_pair (M3 := M3) hW' hR' g3 (by rw [g1]; exact h4') ek hW1 ek1 ek2 hW2).2 k30 (nI w) ef
      rw [hM'] at hp
      refine rq_good (n := N + 2) hW h30 hat (by omega) hp (BB.trans B3 (Nat.le_refl _) (Nat.le_refl _) (Nat.le_refl _) (Nat.le_refl _) (Nat.le_refl _) (Nat.le_refl _) (Nat.le_refl _)) (by omega) (by omega) (fun q ⟨x', wx⟩ => ?_) hw3 dw3 (ety _ (tyB_ok hr)) (j30.trans k30) (j31.trans m31') (j43.trans e43) (fun M4 t1 t2 t3 => ?_)
      · refine nN (nB' q ⟨x', wx⟩) ?_
        obtain ⟨qx, y', z', w', v', r'⟩ := wx
        have ey := w1.fn a hta w'
        have ez := w2.fn b htb v'
        subst ey ez
        rw [← r'.fn hr]
        exact qx
      · have w1'' : Wt (TyR M3 c3) Hl.length (hF Hl) a (p + 1) G d y := w1'.imp a hta (fun j y h1 h2 q => q.up (by rw [j113]) B3.2.2.2.2 B3.2.2.1)
        have w2'' : Wt (TyR M3 c3) Hl.length (hF Hl) b (p + 1 + sz a) G d z := w2.imp b htb (fun j y h1 h2 q => q.up (by rw [j113]) B3.2.2.2.2 B3.2.2.1)
        have dq1 : DpR M3 a (p + 1) d := dp1'.congr a hta (fun j h1 h2 => by rw [j114])
        have dq2 : DpR M3 b (p + 1 + sz a) d := dp2.congr b htb (fun j h1 h2 => by rw [j114])
        exact ⟨⟨t1, y, z, t2.wt hta w1'' (Or.inr (Nat.le_refl _)), t2.wt htb w2'' (Or.inr (by omega)), hr⟩, by rw [t3, j114]; exact e114, t2.dp hta dq1 (Or.inr (Nat.le_refl _)), t2.dp htb dq2 (Or.inr (by omega))⟩
  · intro m a b htm hta htb im ia ib n hn M c p d G h
    obtain ⟨hW, hT, hR, hH, hS, hsc, hsh, hd, hat, h30, hE, hrm⟩ := h
    obtain ⟨g, sm, sa, sb⟩ := hS.C
    obtain ⟨g1, g2, g3⟩ := opl_of g
    have h4 := hR.2.1
    have hle := sb.le
    have psm := sz_pos m htm
    have psa := sz_pos a hta
    have psb := sz_pos b htb
    have hz1 : sz (tC m a b) = sz m + sz a + sz b + 1 := sz_C
    rw [hz1] at hn
    obtain ⟨N, rfl⟩ : ∃ N, n = N + 3 := ⟨n - 3, by omega⟩
    have B0 : AqB M c (wI (wI M 89 43 (nI (p + 1))) 114 p (nI d)) c p (p + sz (tC m a b)) d 0 := ((AqB.refl hT).w _ (Or.inl ⟨rfl, by omega⟩)).w _ (Or.inr (Or.inl ⟨Or.inr rfl, Nat.le_refl _, by omega⟩))
    obtain ⟨M', hM'⟩ : ∃ M', M' = wI (wI M 89 43 (nI (p + 1))) 114 p (nI d) := ⟨_, rfl⟩
    have m43 : M'.2.2.1 89 43 = nI (p + 1) := by rw [hM']; simp [up2_if]
    have m30 : M'.2.2.1 89 30 = 0 := by rw [hM']; simp [up2_if, h30]
    have m31 : M'.2.2.1 89 31 = M.2.2.1 89 31 := by rw [hM']; simp [up2_if]
    have m110 : M'.2.2.1 110 = M.2.2.1 110 := by rw [hM']; funext j; simp [up2_if]
    have m114 : M'.2.2.1 114 p = nI d := by rw [hM']; simp [up2_if]
    rw [← hM'] at B0
    have hW' := B0.wd hW
    have hR' := B0.wr hR
    have five : ∀ {M2 : Mem}, M2.2.2.1 89 30 = 5 → ¬ M2.2.2.1 89 30 = 0 := fun q => by rw [q]; exact five_ne
    have hIm : AqI M' c l Hl c0 CI m (p + 1) d G := by
      refine ⟨hW', B0.2.1, hR', B0.hy hH, sm, hsc.1, hsh.1, by omega, m43, m30, B0.ev hE (Nat.le_refl _), ?_⟩
      rcases hrm with q | ⟨q, x, w⟩
      · exact Or.inl (by omega)
      · obtain ⟨-, y, z, w1, -⟩ := w
        exact Or.inr ⟨q.mv B0.2.2.2.2, _, w1⟩
    obtain ⟨v, c1, M1, ek, B1, nM, res⟩ := im (n := N + 1) (by omega) hIm
    have hW1 := B1.wd hW'
    have BM : AqB M c M1 c1 p (p + sz (tC m a b)) d (sz m) := B0.trans B1 (Nat.le_refl _) (Nat.le_refl _) (by omega) (by omega) (Nat.le_refl _) (Nat.le_refl _) (by omega)
    have nM' : NewR M c c0 CI → (∃ x, Wt (fun _ f => CI f) Hl.length (hF Hl) (tC m a b) p G d x) → NewR M1 c1 c0 CI := fun q ⟨x, w⟩ => by
      obtain ⟨-, y, z, w1, -⟩ := w
      exact nM (q.mv B0.2.2.2.2) ⟨_, w1⟩
    have ek1 : M1.2.2.1 105 p = M'.2.2.1 105 p := B1.int (by omega) (by omega) (by omega) (by omega)
    obtain ⟨p1, p2⟩ := rp_case1 hW' hR' g3 g1 ek hW1 ek1 m43
    rcases res with ⟨e, he, te, l30, l31⟩ | ⟨s, i, te, hv, hi, di, l30, l31, l43, w1, dp1⟩
    · have hp := p1 (five l30)
      rw [hM'] at hp
      refine rq_bad (n := N + 2) (e := e) hW h30 hat (by omega) hp BM (by omega) (by omega) nM' he (by rw [ty_C, te, sbd_l]) l30 ?_
      rw [l31, m110]
    have hcl1 := BM.2.1.2.1
    obtain ⟨k1, k2, k3⟩ := BM.2.1.kd hi
    rw [di] at k1 k2 k3
    by_cases hs : kdf s = 11
    · obtain ⟨y, z, es⟩ := kdf_of (j := 11) (by omega) (by omega) hs k3
      obtain ⟨b1, b2, hb1, hb2, m1, m2, e1, e2⟩ := BM.2.1.two hi (j := 11) (by omega) (by omega) (di.trans es)
      replace es : s = .sub y z := es
      subst es
      have h11 : M1.2.2.1 90 i = 11 := by rw [k1, hs]; rfl
      have ety0 : ty (hF Hl) (tC m a b) p G d = sbd (ty (hF Hl) a (p + 1 + sz m) (ups G d y) (d + 1)) (fun u => sbd (ty (hF Hl) b (p + 1 + sz m + sz a) (ups G d z) (d + 1)) (fun w => tyE u w (p + 1 + sz m + sz a))) := by
        rw [ty_C, te, sbd_r]
        rfl
      have Bk : AqB M c (wI M1 115 d (M1.2.2.1 91 i)) c1 p (p + sz (tC m a b)) d (sz m) := BM.w _ (Or.inr (Or.inr ⟨rfl, Nat.le_refl _⟩))
      have Ek : ∀ f, EvR (wI M1 115 d (M1.2.2.1 91 i)) c1 (d + 1) (ups G d f) → True := fun _ _ => trivial
      have hIa : AqI (wI M1 115 d (M1.2.2.1 91 i)) c1 l Hl c0 CI a (p + 1 + sz m) (d + 1) (ups G d y) := by
        refine ⟨Bk.wd hW, Bk.2.1, Bk.wr hR, Bk.hy hH, sa, hsc.2.1, hsh.2.1, by omega, by simp [up2_if, l43], by simp [up2_if, l30], (Bk.ev hE (Nat.le_refl _)).up hb1 (by simp [up2_if, m1]) e1, ?_⟩
        rcases hrm with q | ⟨q, x, w⟩
        · have := BM.2.2.2.1
          exact Or.inl (by omega)
        · have nq := nM' q ⟨x, w⟩
          obtain ⟨-, y', z', w', v', -⟩ := w
          have e1 := w1.fn m htm w'
          cases e1
          exact Or.inr ⟨nq.mv (fun _ _ => rfl), x, v'⟩
      obtain ⟨u, c2, M2, ek2, B2, nA, res2⟩ := ia (n := N + 1) (by omega) hIa
      have hW2 := B2.wd (Bk.wd hW)
      have BA : AqB M c M2 c2 p (p + sz (tC m a b)) d (sz m + sz a) := Bk.trans B2 (Nat.le_refl _) (Nat.le_refl _) (by omega) (by omega) (Nat.le_refl _) (by omega) (Nat.le_refl _)
      have nA' : NewR M c c0 CI → (∃ x, Wt (fun _ f => CI f) Hl.length (hF Hl) (tC m a b) p G d x) → NewR M2 c2 c0 CI := fun q ⟨x, w⟩ => by
        have nq := nM' q ⟨x, w⟩
        obtain ⟨-, y', z', w', v', -⟩ := w
        have e1 := w1.fn m htm w'
        cases e1
        exact nA (nq.mv (fun _ _ => rfl)) ⟨x, v'⟩
      have hc12 : c1 ≤ c2 := B2.2.2.1
      have Bk2 : AqB M c (wI M2 115 d (M2.2.2.1 92 i)) c2 p (p + sz (tC m a b)) d (sz m + sz a) := BA.w _ (Or.inr (Or.inr ⟨rfl, Nat.le_refl _⟩))
      have pc2 : ∀ {w : Int32} {M3 : Mem}, f_X11_asks (N + 1) 89 (nI (d + 1)) (wI M2 115 d (M2.2.2.1 92 i)) = some (w, M3) → Wd M3 → (¬ M3.2.2.1 89 30 = 0 ∨ u = w → f_X11_provenBy (N + 2) 89 (nI p) (nI d) M' = some (u, M3)) ∧ (∀ q, M3.2.2.1 89 30 = 0 → ¬ u = w → M2.2.2.1 89 43 = nI q → q < 400 → f_X11_provenBy (N + 2) 89 (nI p) (nI d) M' = some (u, flM M3 q)) := fun ek3 hW3 =>
        ⟨(rp_case2 (q := 0) hW' hR' g3 g1 (by omega) ek hW1 ek1 m43 (by omega) hv l30 h11 ek2 hW2 ek3 hW3).1, fun q => (rp_case2 (q := q) hW' hR' g3 g1 (by omega) ek hW1 ek1 m43 (by omega) hv l30 h11 ek2 hW2 ek3 hW3).2⟩
      rcases res2 with ⟨e, he, te2, j30, j31⟩ | ⟨x, j, te2, hu, hj, dj, j30, j31, j43, w2, dp2⟩
      · have ek3 := ra_wr (M := wI M2 115 d (M2.2.2.1 92 i)) (Bk2.wd hW) N (by simp [up2_if, j30]) (nI (d + 1))
        have hp := (pc2 ek3 (Bk2.wd hW)).1 (Or.inl (by simp [up2_if, j30]))
        rw [hM'] at hp
        refine rq_bad (n := N + 2) (e := e) hW h30 hat (by omega) hp Bk2 (by omega) (by omega) (fun q w => (nA' q w).mv (fun _ _ => rfl)) he (by rw [ety0, te2, sbd_l]) (by simp [up2_if, j30]) ?_
        have h31 : (wI M2 115 d (M2.2.2.1 92 i)).2.2.1 89 31 = M2.2.2.1 89 31 := by simp [up2_if]
        rw [h31, j31]
        show M1.2.2.1 110 e = _
        rw [B1.int (by omega) (by omega) (by omega) (by omega), m110]
      · have m2' : M2.2.2.1 92 i = nI b2 := by
          obtain ⟨a1, a2, ha1, ha2, n1, n2, f1, f2⟩ := BA.2.1.two (show i < c2 by omega) (j := 11) (x := y) (y := z) (by omega) (by omega) ((B2.2.2.2.2 i hi).trans (show dR M1 i = _ from di))
          have : a2 = b2 := BA.2.1.inj ha2 (by omega) (f2.trans (((B2.2.2.2.2 b2 hb2).trans (show dR M1 b2 = z from e2)).symm))
          rw [n2, this]
        have db2 : dR M2 b2 = z := (B2.2.2.2.2 b2 hb2).trans e2
        have hIb : AqI (wI M2 115 d (M2.2.2.1 92 i)) c2 l Hl c0 CI b (p + 1 + sz m + sz a) (d + 1) (ups G d z) := by
          refine ⟨Bk2.wd hW, Bk2.2.1, Bk2.wr hR, Bk2.hy hH, sb, hsc.2.2, hsh.2.2, by omega, by simp [up2_if, j43], by simp [up2_if, j30], (Bk2.ev hE (Nat.le_refl _)).up (show b2 < c2 by omega) (by simp [up2_if, m2']) db2, ?_⟩
          rcases hrm with q | ⟨q, x', w⟩
          · have := BA.2.2.2.1
            exact Or.inl (by omega)
          · have nq := nA' q ⟨x', w⟩
            obtain ⟨-, y', z', w', -, v'⟩ := w
            have e1 := w1.fn m htm w'
            cases e1
            exact Or.inr ⟨nq.mv (fun _ _ => rfl), x', v'⟩
        obtain ⟨w, c3, M3, ek3, B3, nB, res3⟩ := ib (n := N + 1) (by omega) hIb
        have hW3 := B3.wd (Bk2.wd hW)
        have BB : AqB M c M3 c3 p (p + sz (tC m a b)) d (sz m + sz a + sz b) := Bk2.trans B3 (Nat.le_refl _) (Nat.le_refl _) (by omega) (by omega) (Nat.le_refl _) (by omega) (Nat.le_refl _)
        have hc23 : c2 ≤ c3 := B3.2.2.1
        have nB' : NewR M c c0 CI → (∃ x, Wt (fun _ f => CI f) Hl.length (hF Hl) (tC m a b) p G d x) → NewR M3 c3 c0 CI := fun q ⟨x', w⟩ => by
          have nq := nA' q ⟨x', w⟩
          obtain ⟨-, y', z', w', -, v'⟩ := w
          have e1 := w1.fn m htm w'
          cases e1
          exact nB (nq.mv (fun _ _ => rfl)) ⟨x', v'⟩
        have k31 : M2.2.2.1 89 31 = M.2.2.1 89 31 := by
          rw [j31]
          show M1.2.2.1 89 31 = _
          rw [l31, m31]
        rcases res3 with ⟨e, he, te3, i30, i31⟩ | ⟨x2, j2, te3, hw2, hj2, dj2, i30, i31, i43, w3, dp3⟩
        · have hp := (pc2 ek3 hW3).1 (Or.inl (five i30))
          rw [hM'] at hp
          refine rq_bad (n := N + 2) (e := e) hW h30 hat (by omega) hp BB (by omega) (by omega) nB' he (by rw [ety0, te2, sbd_r, te3, sbd_l]) i30 ?_
          rw [i31]
          show M2.2.2.1 110 e = _
          rw [B2.int (by omega) (by omega) (by omega) (by omega)]
          show M1.2.2.1 110 e = _
          rw [B1.int (by omega) (by omega) (by omega) (by omega), m110]
        · have hcl3 := BB.2.1.2.1
          have dj3 : dR M3 j = x := (B3.2.2.2.2 j hj).trans dj
          by_cases hx : x = x2
          · subst hx
            have hjj : j = j2 := BB.2.1.inj (by omega) hj2 (dj3.trans dj2.symm)
            have huw : u = w := by rw [hu, hw2, hjj]
            have hp := (pc2 ek3 hW3).1 (Or.inr huw)
            rw [hM', hu] at hp
            have hE0 : tyE x x (p + 1 + sz m + sz a) = .inr x := if_pos rfl
            refine rq_good (n := N + 2) hW h30 hat (by omega) hp BB (by omega) (by omega) nB' (show j < c3 by omega) dj3 (by rw [ety0, te2, sbd_r, te3, sbd_r, hE0]) i30 (i31.trans k31) (by rw [i43, hz1, show p + 1 + sz m + sz a + sz b = p + (sz m + sz a + sz b + 1) by omega]) (fun M4 t1 t2 t3 => ?_)
            have B12 : AqB M1 c1 M2 c2 (p + 1 + sz m) (p + 1 + sz m + sz a) d (sz a) := ((AqB.refl BM.2.1).w _ (Or.inr (Or.inr ⟨rfl, Nat.le_refl _⟩))).trans (p1 := p + 1 + sz m) (e1 := p + 1 + sz m) (d1 := d) B2 (Nat.le_refl _) (by omega) (Nat.le_refl _) (Nat.le_refl _) (Nat.le_refl _) (by omega) (by omega)
            have B23 : AqB M2 c2 M3 c3 (p + 1 + sz m + sz a) (p + 1 + sz m + sz a + sz b) d (sz b) := ((AqB.refl BA.2.1).w _ (Or.inr (Or.inr ⟨rfl, Nat.le_refl _⟩))).trans (p1 := p + 1 + sz m + sz a) (e1 := p + 1 + sz m + sz a) (d1 := d) B3 (Nat.le_refl _) (by omega) (Nat.le_refl _) (Nat.le_refl _) (Nat.le_refl _) (by omega) (by omega)
            have w1' : Wt (TyR M3 c3) Hl.length (hF Hl) m (p + 1) G d (.sub y z) := B23.wt htm (B12.wt htm w1 (Or.inl (Nat.le_refl _))) (Or.inl (by omega))
            have w2' : Wt (TyR M3 c3) Hl.length (hF Hl) a (p + 1 + sz m) (ups G d y) (d + 1) x := B23.wt hta w2 (Or.inl (Nat.le_refl _))
            have dq1 : DpR M3 m (p + 1) d := B23.dp htm (B12.dp htm dp1 (Or.inl (Nat.le_refl _))) (Or.inl (by omega))
            have dq2 : DpR M3 a (p + 1 + sz m) (d + 1) := B23.dp hta dp2 (Or.inl (Nat.le_refl _))
            refine ⟨⟨t1, y, z, t2.wt htm w1' (Or.inr (Nat.le_refl _)), t2.wt hta w2' (Or.inr (by omega)), t2.wt htb w3 (Or.inr (by omega))⟩, ?_, t2.dp htm dq1 (Or.inr (Nat.le_refl _)), t2.dp hta dq2 (Or.inr (by omega)), t2.dp htb dp3 (Or.inr (by omega))⟩
            rw [t3, B23.in113 (Or.inr rfl) (by omega), B12.in113 (Or.inr rfl) (by omega), B1.in113 (Or.inr rfl) (by omega), m114]
          · have hne : ¬ u = w := by
              rw [hu, hw2]
              intro q
              have := (nI_eq (by omega) (by omega)).mp q
              subst this
              exact hx (dj3.symm.trans dj2)
            have hp := (pc2 ek3 hW3).2 (p + 1 + sz m + sz a) i30 hne j43 (by omega)
            rw [hM'] at hp
            have hE0 : tyE x x2 (p + 1 + sz m + sz a) = .inl (p + 1 + sz m + sz a) := if_neg hx
            have B4 : AqB M c (flM M3 (p + 1 + sz m + sz a)) c3 p (p + sz (tC m a b)) d (sz m + sz a + sz b) := (BB.w _ (Or.inl ⟨rfl, by omega⟩)).w _ (Or.inl ⟨rfl, by omega⟩)
            refine rq_bad (n := N + 2) (e := p + 1 + sz m + sz a) hW h30 hat (by omega) hp B4 (by omega) (by omega) (fun a b => (nB' a b).mv (fun _ _ => rfl)) (by omega) (by rw [ety0, te2, sbd_r, te3, sbd_r, hE0]) (by simp [up2_if]) ?_
            rw [fl_31, BB.int (by omega) (by omega) (by omega) (by omega)]
    · have hp := p2 i (by omega) hv l30 (by omega) (fun q => hs (by rw [k1] at q; exact (nI_eq (b := 11) (by omega) (by omega)).mp q))
      rw [hM'] at hp
      have ety0 : ty (hF Hl) (tC m a b) p G d = .inl (p + 1) := by
        rw [ty_C, te, sbd_r, dO_no hs]
        rfl
      have B4 : AqB M c (flM M1 (p + 1)) c1 p (p + sz (tC m a b)) d (sz m) := (BM.w _ (Or.inl ⟨rfl, by omega⟩)).w _ (Or.inl ⟨rfl, by omega⟩)
      refine rq_bad (n := N + 2) (e := p + 1) hW h30 hat (by omega) hp B4 (by omega) (by omega) (fun a b => (nM' a b).mv (fun _ _ => rfl)) (by omega) ety0 (by simp [up2_if]) ?_
      rw [fl_31, BM.int (by omega) (by omega) (by omega) (by omega)]
end RT
