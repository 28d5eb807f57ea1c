/-! THE DECIDER in the class: parts as formulas, decide -/
section DP1
variable {M M1 : Mem} {c n g0 : Nat} {S : Nat → Prop} {H : List (Nat × Fm)} {kd lf rt : Nat → Nat}
set_option maxHeartbeats 1000000 in
theorem pr_parts (hT : TabC M c) (hP : PrS M S 5200) (hcl : ClP M c S) (h40 : cP S 5200 ≤ 40) : ∃ kd lf rt : Nat → Nat, TkP M (cP S 5200) kd lf rt ∧ (∀ i j, i < cP S 5200 → j < cP S 5200 → kd i = kd j → kd i < 9 → i = j) ∧ ∀ v, S v → dn kd lf rt (cP S v) = dC M v := by
  have hc := hT.2.1
  have ch : ∀ i, ∃ t : Nat × Nat × Nat, i < cP S 5200 → ∃ v, v < 5200 ∧ S v ∧ cP S v = i ∧ M.2.2.1 76 i = nI t.1 ∧ ((v < 9 ∧ t.1 = v) ∨ (9 ≤ t.1 ∧ t.1 ≤ 11 ∧ ∃ a b, a < v ∧ b < v ∧ S a ∧ S b ∧ M.2.2.1 77 i = nI (cP S a) ∧ t.2.1 = cP S a ∧ M.2.2.1 78 i = nI (cP S b) ∧ t.2.2 = cP S b ∧ dC M v = mkF t.1 (dC M a) (dC M b))) := by
    intro i
    by_cases hi : i < cP S 5200
    · obtain ⟨v, v1, v2, v3⟩ := cP_inv 5200 i hi
      obtain ⟨p1, p2, p3, p4⟩ := hP.2 v v1 v2
      have hvc := (hcl v v2).1
      by_cases h9 : v < 9
      · exact ⟨(v, 0, 0), fun _ => ⟨v, v1, v2, v3, by rw [← v3, p2]; exact hT.2.2.2.2.1 v h9, Or.inl ⟨h9, rfl⟩⟩⟩
      · obtain ⟨o, a, b, o1, o2, ha, hb, e1, e2, e3, e4⟩ := hT.node (by omega) hvc
        obtain ⟨sa, sb⟩ := (hcl v v2).2 o a b o1 o2 ha hb e4
        exact ⟨(o, cP S a, cP S b), fun _ => ⟨v, v1, v2, v3, by rw [← v3, p2, e1], Or.inr ⟨o1, o2, a, b, ha, hb, sa, sb, by rw [← v3]; exact p3.to (by omega) e2, rfl, by rw [← v3]; exact p4.to (by omega) e3, rfl, e4⟩⟩⟩
    · exact ⟨(0, 0, 0), fun q => absurd q hi⟩
  obtain ⟨t, ht0⟩ := Classical.axiomOfChoice ch
  obtain ⟨kd, hk⟩ : ∃ kd : Nat → Nat, ∀ i, kd i = (t i).1 := ⟨_, fun _ => rfl⟩
  obtain ⟨lf, hl⟩ : ∃ lf : Nat → Nat, ∀ i, lf i = (t i).2.1 := ⟨_, fun _ => rfl⟩
  obtain ⟨rt, hr⟩ : ∃ rt : Nat → Nat, ∀ i, rt i = (t i).2.2 := ⟨_, fun _ => rfl⟩
  have ht : ∀ i, i < cP S 5200 → ∃ v, v < 5200 ∧ S v ∧ cP S v = i ∧ M.2.2.1 76 i = nI (kd i) ∧ ((v < 9 ∧ kd i = v) ∨ (9 ≤ kd i ∧ kd i ≤ 11 ∧ ∃ a b, a < v ∧ b < v ∧ S a ∧ S b ∧ M.2.2.1 77 i = nI (cP S a) ∧ lf i = cP S a ∧ M.2.2.1 78 i = nI (cP S b) ∧ rt i = cP S b ∧ dC M v = mkF (kd i) (dC M a) (dC M b))) := fun i hi => by
    rw [hk, hl, hr]
    exact ht0 i hi
  clear ht0 hk hl hr ch
  have hlt : ∀ i, i < cP S 5200 → 9 ≤ kd i → lf i < i ∧ rt i < i := fun i hi h9 => by
    obtain ⟨v, v1, v2, v3, v4, q⟩ := ht i hi
    rcases q with ⟨q1, q2⟩ | ⟨q1, q2, a, b, ha, hb, sa, sb, e1, e2, e3, e4, e5⟩
    · omega
    · have := cP_lt sa ha
      have := cP_lt sb hb
      omega
  refine ⟨kd, lf, rt, ⟨hP.1, h40, fun i hi => ?_⟩, fun i j hi hj e h9 => ?_, ?_⟩
  · obtain ⟨v, v1, v2, v3, v4, q⟩ := ht i hi
    rcases q with ⟨q1, q2⟩ | ⟨q1, q2, a, b, ha, hb, sa, sb, e1, e2, e3, e4, e5⟩
    · exact ⟨v4, by omega, fun h => by omega⟩
    · exact ⟨v4, q2, fun h => ⟨by rw [e2]; exact e1, by rw [e4]; exact e3, hlt i hi h⟩⟩
  · obtain ⟨v, v1, v2, v3, v4, q⟩ := ht i hi
    obtain ⟨u, u1, u2, u3, u4, r⟩ := ht j hj
    rcases q with ⟨q1, q2⟩ | ⟨q1, -⟩
    · rcases r with ⟨r1, r2⟩ | ⟨r1, -⟩
      · rw [← v3, ← u3, ← q2, ← r2, e]
      · omega
    · omega
  · have key : ∀ z v, S v → cP S v < z → dn kd lf rt (cP S v) = dC M v := by
      intro z
      induction z with
      | zero => intro v _ h; exact absurd h (Nat.not_lt_zero _)
      | succ z ih =>
        intro v hv hz
        have hvc := (hcl v hv).1
        have hi : cP S v < cP S 5200 := cP_lt hv (by omega)
        have D := dn_eq0 (kd := kd) (lf := lf) (rt := rt) hlt hi
        obtain ⟨u, u1, u2, u3, u4, r⟩ := ht _ hi
        have euv : u = v := cP_inj u2 hv u3
        subst euv
        rcases r with ⟨r1, r2⟩ | ⟨r1, r2, a, b, ha, hb, sa, sb, e1, e2, e3, e4, e5⟩
        · rw [D.1 (show kd (cP S u) < 9 by omega), r2]
          exact (hT.leaf r1).symm
        · have ia := ih a sa (by have := cP_lt sa ha; omega)
          have ib := ih b sb (by have := cP_lt sb hb; omega)
          rw [← e2] at ia
          rw [← e4] at ib
          have jj : kd (cP S u) = 9 ∨ kd (cP S u) = 10 ∨ kd (cP S u) = 11 := by omega
          rcases jj with q | q | q
          · rw [D.2.1 q, e5, q, ia, ib]; rfl
          · rw [D.2.2.1 q, e5, q, ia, ib]; rfl
          · rw [D.2.2.2 q, e5, q, ia, ib]; rfl
    exact fun v hv => key (cP S v + 1) v hv (by omega)
theorem mc_11 : ∀ z s, s + z = 8192 → ∀ (M : Mem), Wd M → (∀ s', s' < s → M.2.2.2.1 84 s' = 0) → ∃ M2, lp (st_X0_decide n) (11, [.ref 80, .ref 10, .int (nI g0), .int (nI s)], M) = lp (st_X0_decide n) (36, [.ref 80, .ref 10, .int (nI g0), .long 0, .int 0], M2) ∧ Fr (fun a _ => a = 84) M M2 ∧ ∀ s', s' < 8192 → M2.2.2.2.1 84 s' = 0 := by
  intro z
  induction z with
  | zero =>
    intro s hs M hW h0
    refine ⟨M, ?_, Fr.refl, fun s' h => h0 s' (by omega)⟩
    refine (ge_X0_decide_11 n 80 10 (nI g0) (nI s) M).trans ?_
    unfold T_X0_decide_11
    have hle : ((8192 : Int32) ≤ nI s) = True := eq_true (by rw [show (8192 : Int32) = nI 8192 from rfl, nI_le_ (by omega) (by omega)]; omega)
    simp only [hle, ↓reduceIte]
  | succ z ih =>
    intro s hs M hW h0
    have hle : ((8192 : Int32) ≤ nI s) = False := eq_false (by rw [show (8192 : Int32) = nI 8192 from rfl, nI_le_ (by omega) (by omega)]; omega)
    have F1 : Fr (fun a _ => a = 84) M (wJ M 84 s 0) := Fr.wJ (S := fun a _ => a = 84) Fr.refl rfl _
    obtain ⟨M2, y, F2, r⟩ := ih (s + 1) (by omega) (wJ M 84 s 0) (F1.Wd hW) (fun s' h => by
      by_cases e : s' = s
      · subst e; simp [up2_if]
      · show up2 M.2.2.2.1 84 s 0 84 s' = 0
        rw [up2_if, if_neg (fun q => e q.2)]
        exact h0 s' (by omega))
    refine ⟨M2, ?_, F1.trans F2, r⟩
    rw [← y]
    refine (ge_X0_decide_11 n 80 10 (nI g0) (nI s) M).trans ?_
    unfold T_X0_decide_11
    simp (disch := omega) only [hle, ↓reduceIte, ↓gd_pos (fO80 hW), ↓bnd_of (r_80_4 hW), ↓gd_pos (fA84 hW (show s < 8192 by omega)), nI_z, nI_1]
/-- the hypotheses' parts so far -/
def KnS (M : Mem) (S : Nat → Prop) (H : List (Nat × Fm)) (j : Nat) (w : Int64) : Prop := ∀ i, St w i ↔ ∃ u, S u ∧ cP S u = i ∧ ∃ j', ∃ h : j' < H.length, j' < j ∧ dC M u = H[j'].2
theorem kn_36 (hW : Wd M) (hT : TabC M c) (hH : HyC M 10 c H) (h75 : ∀ u, S u → M.2.2.1 75 u = nI (cP S u)) (hSc : ∀ u, S u → u < c) (h40 : cP S 5200 ≤ 40) (hHS : ∀ u, u < c → hyF H (dC M u) → S u) : ∀ z j, j + z = H.length → ∀ w, KnS M S H j w → ∃ w2, lp (st_X0_decide (n + 2)) (36, [.ref 80, .ref 10, .int (nI g0), .long w, .int (nI j)], M) = lp (st_X0_decide (n + 2)) (36, [.ref 80, .ref 10, .int (nI g0), .long w2, .int (nI H.length)], M) ∧ KnS M S H H.length w2 := by
  have h6 := hH.2.1
  have hc := hT.2.1
  have hO : fO M 10 2 := ⟨by rw [hW.1]; omega, s_10 hW⟩
  intro z
  induction z with
  | zero =>
    intro j hj w hw
    have e : j = H.length := by omega
    subst e
    exact ⟨w, rfl, hw⟩
  | succ z ih =>
    intro j hj w hw
    have hjl : j < H.length := by omega
    obtain ⟨v, v1, v2, v3, v4, -⟩ := hH.2.2 j hjl
    have v3 : M.2.2.1 12 j = nI v := v3
    have sv : S v := hHS v v1 ⟨H[j], List.getElem_mem hjl, v4⟩
    have hi : cP S v < cP S 5200 := cP_lt sv (by omega)
    have hle : (nI H.length ≤ nI j) = False := eq_false (by rw [nI_le_ (by omega) (by omega)]; omega)
    have y1 := c_formulaOf10 hW (n + 1) hH hjl
    rw [v3] at y1
    have y2 : f_X5_spotOf (n + 1) 74 (nI v) M = some (nI (cP S v), M) := c_spotOf hW (Or.inr ⟨v, by omega, rfl, h75 v sv⟩)
    have y3 := c_bit (show cP S v < 40 by omega) (n + 1) M
    obtain ⟨w2, y, r⟩ := ih (j + 1) (by omega) (w ||| bt (cP S v)) (fun i => by
      rw [St_or (show cP S v < 40 by omega)]
      constructor
      · rintro (q | q)
        · obtain ⟨u, u1, u2, j', h', u3, u4⟩ := (hw i).mp q
          exact ⟨u, u1, u2, j', h', by omega, u4⟩
        · exact ⟨v, sv, q.symm, j, hjl, by omega, v4⟩
      · rintro ⟨u, u1, u2, j', h', u3, u4⟩
        by_cases e : j' = j
        · subst e
          right
          rw [← u2, hT.inj (hSc u u1) v1 (u4.trans v4.symm)]
        · exact Or.inl ((hw i).mpr ⟨u, u1, u2, j', h', by omega, u4⟩))
    refine ⟨w2, ?_, r⟩
    rw [← y]
    refine (ge_X0_decide_36 (n + 2) 80 10 (nI g0) w (nI j) M).trans ?_
    unfold T_X0_decide_36
    simp (disch := omega) only [↓gd_pos hO, hH.1, hle, ↓reduceIte, ↓gd_pos (fO80 hW), ↓bnd_of (r_80_0 hW), ↓bnd2_of (show cal (n + 2) (fun zz => f_X2_formulaOf zz 10 (nI j) M) = _ from y1), ↓gd_pos (fO74 hW), ↓bnd2_of (show cal (n + 2) (fun zz => f_X5_spotOf zz 74 (nI v) M) = _ from y2), ↓bnd2_of (show cal (n + 2) (fun zz => f_X0_bit zz (nI (cP S v)) M) = _ from y3), nI_1]
def SDc (a _k : Nat) : Prop := 80 ≤ a ∧ a ≤ 86
set_option maxHeartbeats 2000000 in
theorem c_decide (hW : Wd M) (hT : TabC M c) (hH : HyC M 10 c H) (hP : PrS M S 5200) (hcl : ClP M c S) (h40 : cP S 5200 ≤ 40) (hHS : ∀ u, u < c → hyF H (dC M u) → S u) (hg : S g0) (k : Nat) : ∃ v M1, f_X0_decide (k + 86) 80 10 (nI g0) M = some (v, M1) ∧ ((v = 1 ∧ Ent (hyF H) (dC M g0)) ∨ (v = 0 ∧ ¬ Ent (hyF H) (dC M g0))) ∧ Fr SDc M M1 := by
  have hc := hT.2.1
  have h6 := hH.2.1
  obtain ⟨n, hn⟩ : ∃ n, n = k + 84 := ⟨_, rfl⟩
  rw [show k + 86 = n + 2 by omega]
  obtain ⟨kd, lf, rt, tk, tk3, tdn⟩ := pr_parts hT hP hcl h40
  obtain ⟨m, hm⟩ : ∃ m, m = cP S 5200 := ⟨_, rfl⟩
  rw [← hm] at tk tk3 h40
  obtain ⟨Ma, ya, Fa, Da⟩ := c_takeParts hW tk tk3 n
  have Fb : Fr (fun a k => a = 80 ∧ k = 6) Ma (wI Ma 80 6 0) := Fr.refl.wI ⟨rfl, rfl⟩ _
  obtain ⟨Mc, yc, Fc, Zc⟩ := mc_11 (n := n + 2) (g0 := g0) 8192 0 (by omega) (wI Ma 80 6 0) (Fb.Wd (Fa.Wd hW)) (fun s' h => absurd h (Nat.not_lt_zero _))
  have F1 : Fr SDc M Mc := ((Fa.mono (fun a k q => by unfold S81 at q; unfold SDc; omega)).trans (Fb.mono (fun a k q => by unfold SDc; omega))).trans (Fc.mono (fun a k q => by unfold SDc; omega))
  have hWc := F1.Wd hW
  obtain ⟨Tc, dc⟩ := tab_mq hT F1.q (fun a k q => by unfold SDc at q; omega)
  have Hc : HyC Mc 10 c H := hH.up F1 (fun a k q => by unfold SDc at q; omega) (fun i _ => dc i) (Nat.le_refl _)
  have Dc : DcP Mc m kd lf rt := (Da.s84 (Fb.mono (fun a k q => by unfold S84; omega))).s84 (Fc.mono (fun a k q => by unfold S84; omega))
  have h75 : ∀ u, S u → Mc.2.2.1 75 u = nI (cP S u) := fun u hu => (F1.int (by unfold SDc; omega)).trans (hP.2 u (by have := (hcl u hu).1; omega) hu).1
  obtain ⟨w, yw, kw⟩ := kn_36 (n := n) (g0 := g0) hWc Tc Hc h75 (fun u hu => (hcl u hu).1) (by omega) (fun u hu q => hHS u hu (by rw [← dc]; exact q)) H.length 0 (by omega) 0 (fun i => ⟨fun q => (by
    have q : b64 0 i = true := q
    rw [b64_0] at q
    cases q), fun ⟨u, u1, u2, j', h', u3, u4⟩ => absurd u3 (Nat.not_lt_zero _)⟩)
  -- the goal
  have hgc := (hcl g0 hg).1
  have hgi : cP S g0 < m := by rw [hm]; exact cP_lt hg (by omega)
  obtain ⟨gi, hgie⟩ : ∃ gi, gi = cP S g0 := ⟨_, rfl⟩
  rw [← hgie] at hgi
  have y2 : f_X5_spotOf (n + 1) 74 (nI g0) Mc = some (nI gi, Mc) := by rw [hgie]; exact c_spotOf hWc (Or.inr ⟨g0, by omega, rfl, h75 g0 hg⟩)
  have y3 := c_bit (show gi < 40 by omega) (n + 1) Mc
  have Fd : Fr (fun a k => a = 80 ∧ k = 8) Mc (wJ Mc 80 8 (bt gi)) := Fr.refl.wJ ⟨rfl, rfl⟩ _
  have hWd := Fd.Wd hWc
  have dp : ∀ {M1 M2 : Mem} {k : Nat}, k = 8 ∨ k = 10 → Fr (fun a i => a = 80 ∧ i = k) M1 M2 → DcP M1 m kd lf rt → DcP M2 m kd lf rt := fun hk F D => ⟨(F.int (by omega)).trans D.1, D.2.1, fun i hi => by
    rw [F.int (by omega), F.lng (a := 82) (by omega), F.lng (a := 83) (by omega)]
    exact D.2.2.1 i hi, by
    rw [F.lng (by omega)]
    exact D.2.2.2⟩
  have Dd : DcP (wJ Mc 80 8 (bt gi)) m kd lf rt := dp (Or.inl rfl) Fd Dc
  have h11 : ∀ i, i < m → kd i ≤ 11 := fun i hi => (tk.2.2 i hi).2.1
  have hlt : ∀ i, i < m → 9 ≤ kd i → lf i < i ∧ rt i < i := fun i hi h9 => ((tk.2.2 i hi).2.2 h9).2.2
  obtain ⟨a2, g2, y4, s1, s2, s3⟩ := c_findAsked hWd Dd h11 hlt (by omega) w (n + 1)
  have g9 : (wJ Mc 80 8 (bt gi)).2.2.2.1 80 8 = bt gi := by simp [up2_if]
  rw [g9] at s1
  have Fe : Fr (fun a k => a = 80 ∧ k = 10) (wJ Mc 80 8 (bt gi)) (wJ (wJ Mc 80 8 (bt gi)) 80 10 a2) := Fr.refl.wJ ⟨rfl, rfl⟩ _
  obtain ⟨Me, hMe⟩ : ∃ Me, Me = wJ (wJ Mc 80 8 (bt gi)) 80 10 a2 := ⟨_, rfl⟩
  rw [← hMe] at Fe
  have De : DcP Me m kd lf rt := dp (Or.inr rfl) Fe Dd
  have hM : DcM m kd lf rt gi a2 Me := ⟨Fe.Wd hWd, De, ⟨hgi, (Fe.lng (by omega)).trans g9, by rw [hMe]; simp [up2_if]⟩, fun s hs => Or.inl ((Fe.lng (by omega)).trans ((Fd.lng (by omega)).trans (Zc s hs)))⟩
  have hPt := AgC.pt h11 hlt tk3 s3
  have hIn : Inr m w := fun j q => by
    obtain ⟨u, u1, u2, -⟩ := (kw j).mp q
    rw [← u2, hm]
    exact cP_lt u1 (by have := (hcl u u1).1; omega)
  obtain ⟨R, Mf, y5, C5, F5, M5⟩ := c_close hPt hM hIn k
  rw [show k + 85 = n + 1 by omega] at y5
  -- what it says
  have edS : dnS m kd lf rt (St w) = hyF H := by
    funext f
    apply propext
    constructor
    · rintro ⟨i, hi, q, rfl⟩
      obtain ⟨u, u1, u2, j', h', -, u4⟩ := (kw i).mp q
      exact ⟨H[j'], List.getElem_mem h', by rw [← u2, tdn u u1, ← dc]; exact u4⟩
    · rintro ⟨x, hx, rfl⟩
      obtain ⟨j, hj, e⟩ := List.getElem_of_mem hx
      obtain ⟨v, v1, -, -, v4, -⟩ := hH.2.2 j hj
      have sv : S v := hHS v v1 ⟨H[j], List.getElem_mem hj, v4⟩
      refine ⟨cP S v, by rw [hm]; exact cP_lt sv (by omega), (kw _).mpr ⟨v, sv, rfl, j, hj, hj, (dc v).trans v4⟩, ?_⟩
      rw [tdn v sv, v4, e]
  have edg : dn kd lf rt gi = dC M g0 := by rw [hgie]; exact tdn g0 hg
  have hMf : Mf.2.2.2.1 80 8 = bt gi := M5.2.2.1.2.1
  have hle : (nI H.length ≤ nI H.length) = True := eq_true (by rw [nI_le_ (by omega) (by omega)]; omega)
  have hO : fO Mc 10 2 := ⟨by rw [hWc.1]; omega, s_10 hWc⟩
  have FF : Fr SDc M Mf := ((F1.trans (Fd.mono (fun a k q => by unfold SDc; omega))).trans (Fe.mono (fun a k q => by unfold SDc; omega))).trans (F5.mono (fun a k q => by unfold S84 at q; unfold SDc; omega))
  have start : f_X0_decide (n + 2) 80 10 (nI g0) M = lp (st_X0_decide (n + 2)) (36, [.ref 80, .ref 10, .int (nI g0), .long w, .int (nI H.length)], Mc) := by
    refine Eq.trans ?_ yw
    refine Eq.trans ?_ yc
    refine (ge_X0_decide_0 (n + 2) 80 10 (nI g0) M).trans ?_
    unfold T_X0_decide_0
    simp only [↓gd_pos (fO80 hW), ↓bnd2_of (show cal (n + 2) (fun zz => f_X0_takeParts zz 80 M) = _ from ya), ↓gd_pos (fO80 (Fa.Wd hW))]
    rfl
  have fin : f_X0_decide (n + 2) 80 10 (nI g0) M = if (b64 R gi = false) then some (0, Mf) else some (1, Mf) := by
    refine start.trans ((ge_X0_decide_36 (n + 2) 80 10 (nI g0) w (nI H.length) Mc).trans ?_)
    unfold T_X0_decide_36
    simp only [↓gd_pos hO, Hc.1, hle, ↓reduceIte, ↓gd_pos (fO80 hWc), ↓bnd_of (r_80_0 hWc), ↓gd_pos (fO74 hWc), ↓bnd2_of (show cal (n + 2) (fun zz => f_X5_spotOf zz 74 (nI g0) Mc) = _ from y2), ↓bnd2_of (show cal (n + 2) (fun zz => f_X0_bit zz (nI gi) Mc) = _ from y3), ↓bnd2_of (show cal (n + 2) (fun zz => f_X0_findAsked zz 80 w (wJ Mc 80 8 (bt gi))) = _ from y4), ↓gd_pos (fO80 hWd), ← hMe, ↓bnd2_of (show cal (n + 2) (fun zz => f_X0_close zz 80 w 0 Me) = _ from y5), ↓gd_pos (fO80 M5.1), hMf]
    simp only [cm_bt (show gi < 40 by omega)]
  cases hb : b64 R gi with
  | true =>
    rw [if_neg (by rw [hb]; exact Bool.noConfusion)] at fin
    refine ⟨1, Mf, fin, Or.inl ⟨rfl, ?_⟩, FF⟩
    have := C5.1 gi hgi hb
    unfold EnI at this
    rw [edS, edg] at this
    exact this
  | false =>
    rw [if_pos hb] at fin
    refine ⟨0, Mf, fin, Or.inr ⟨rfl, ?_⟩, FF⟩
    obtain ⟨N, T, hF, hs, hT'⟩ := C5.2 gi hgi (fun q => by
      have q : b64 R gi = true := q
      rw [hb] at q
      cases q)
    have := W_refutes hPt hF (S := St w) (fun j hj q => ⟨s2 j q, hs j hj q⟩) hgi (s1 gi ((bt_mem (by omega)).mpr rfl)) hT'
    rw [edS, edg] at this
    exact this
end DP1
