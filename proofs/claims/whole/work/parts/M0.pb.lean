/-! THE REFERENCE's SEARCH: provableBy -/
def hyF (H : List (Nat × Fm)) (f : Fm) : Prop := ∃ x, x ∈ H ∧ f = x.2
def wMs : List (Nat × Fm) → Nat
  | [] => 0
  | x :: l => wM x.2 + wMs l
theorem wMs_app : ∀ (A B : List (Nat × Fm)), wMs (A ++ B) = wMs A + wMs B := by
  intro A B
  induction A with
  | nil => exact (Nat.zero_add _).symm
  | cons x A ih => show wM x.2 + wMs (A ++ B) = wM x.2 + wMs A + wMs B; rw [ih]; omega
def grH : List (Nat × Fm) → List Fm
  | [] => []
  | x :: l => gr x.2 ++ grH l
theorem grH_len : ∀ (H : List (Nat × Fm)), (grH H).length ≤ hws H := by
  intro H
  induction H with
  | nil => exact Nat.le_refl _
  | cons x H ih =>
    show (gr x.2 ++ grH H).length ≤ wdf x.2 + hws H
    rw [List.length_append]
    have := (gs_len x.2).1
    omega
theorem grH_sub : ∀ (H : List (Nat × Fm)) x, x ∈ H → Sub (gr x.2) (grH H) := by
  intro H
  induction H with
  | nil => intro x hx; exact absurd hx (by simp)
  | cons y H ih =>
    intro x hx f hf
    rcases List.mem_cons.mp hx with rfl | hx
    · exact List.mem_append_left _ hf
    · exact List.mem_append_right _ (ih x hx f hf)
theorem hws_mem : ∀ (H : List (Nat × Fm)) x, x ∈ H → wdf x.2 ≤ hws H := by
  intro H
  induction H with
  | nil => intro x hx; exact absurd hx (by simp)
  | cons y H ih =>
    intro x hx
    show wdf x.2 ≤ wdf y.2 + hws H
    rcases List.mem_cons.mp hx with rfl | hx
    · omega
    · have := ih x hx
      omega
/-- all of them together -/
theorem wMs_top : ∀ (H : List (Nat × Fm)), (∀ x, x ∈ H → 2 * lea x.2 + nt x.2 ≤ 31) → hws H ≤ 40 → wMs H ≤ 5 * hws H + 1170 * (hws H / 21) := by
  intro H
  induction H with
  | nil => intro _ _; exact Nat.zero_le _
  | cons x H ih =>
    intro ht hw
    have hw : wdf x.2 + hws H ≤ 40 := hw
    have h1 := (wt_top (ht x List.mem_cons_self) (by omega)).1
    have h2 := ih (fun y hy => ht y (List.mem_cons_of_mem _ hy)) (by omega)
    show wM x.2 + wMs H ≤ 5 * (wdf x.2 + hws H) + 1170 * ((wdf x.2 + hws H) / 21)
    omega
theorem w_top {H : List (Nat × Fm)} {gf : Fm} (ht : ∀ x, x ∈ H → 2 * lea x.2 + nt x.2 ≤ 31) (hg : 2 * lea gf + nt gf ≤ 31) (hw : wdf gf + hws H ≤ 40) : wMs H + wG gf ≤ 1370 := by
  have h1 := wMs_top H ht (by omega)
  have h2 := (wt_top hg (by omega)).2
  omega
section PB0
variable {M M1 : Mem} {c n f : Nat} {H : List (Nat × Fm)} {gf G : Fm}
theorem wo_eq (n : Nat) (x : Int32) (M : Mem) : f_X11_wordsOf (n + 1) 89 x M = T_X11_wordsOf_0 (fun v M => some (v, M)) none (r_X11_wordsOf n) (n + 1) 89 x M := rfl
theorem rx_wordsOf (hW : Wd M) (hT : TabR M c) : ∀ d k f, f < c → dpf (dR M f) ≤ d → f_X11_wordsOf (d + 1 + k) 89 (nI f) M = some (nI (wdf (dR M f)), M) := by
  intro d
  induction d using Nat.strongRecOn with
  | ind d ih =>
  intro k f hf hd
  have hc := hT.2.1
  obtain ⟨n, hn⟩ : ∃ n, n = d + k := ⟨_, rfl⟩
  rw [show d + 1 + k = n + 1 by omega, wo_eq]
  have f91 := fA_R hW (a := 91) (by omega) (s_91 hW) (show f < 16384 by omega) (by omega)
  have f92 := fA_R hW (a := 92) (by omega) (s_92 hW) (show f < 16384 by omega) (by omega)
  have hO := fO_R hW
  unfold T_X11_wordsOf_0
  rcases hT.cases hf with ⟨j, hj, e1, e2, e3, e4⟩ | ⟨j, a, b, h1, h2, ha, hb, e1, e2, e3, e4⟩
  · rw [e4]
    have q : ((-1 : Int32) = -1) = True := eq_true rfl
    simp (disch := omega) only [↓gd_pos hO, ↓bnd_of (r_89_2 hW), ↓gd_pos f91, nI_z, e2, q, ↓reduceIte]
    rfl
  · rw [e4, dpf_mk] at hd
    have y1 : r_X11_wordsOf n 0 [.ref 89, .int (nI a)] M = some (nI (wdf (dR M a)), M) := by
      have := ih (d - 1) (by omega) k a (by omega) (by omega)
      rw [show d - 1 + 1 + k = n by omega] at this
      exact this
    have y2 : r_X11_wordsOf n 0 [.ref 89, .int (nI b)] M = some (nI (wdf (dR M b)), M) := by
      have := ih (d - 1) (by omega) k b (by omega) (by omega)
      rw [show d - 1 + 1 + k = n by omega] at this
      exact this
    have q : (nI a = (-1 : Int32)) = False := nI_ne_m1 (by omega)
    rw [e4, wdf_mk]
    simp (disch := omega) only [↓gd_pos hO, ↓bnd_of (r_89_2 hW), ↓gd_pos f91, nI_z, e2, q, ↓reduceIte, ↓bnd2_of y1, ↓bnd_of (r_89_3 hW), ↓gd_pos f92, e3, ↓bnd2_of y2]
    rw [show (1 : Int32) + nI (wdf (dR M a)) + nI (wdf (dR M b)) = nI (1 + wdf (dR M a) + wdf (dR M b)) from by rw [show (1 : Int32) = nI 1 from rfl]; exact (by rw [show nI 1 + nI (wdf (dR M a)) = nI (1 + wdf (dR M a)) from (Int32.ofNat_add _ _).symm]; exact (Int32.ofNat_add _ _).symm)]
theorem pb_11 (hW : Wd M) (hT : TabR M c) (hH : HyR M 15 96 97 98 c H) (hd : ∀ x, x ∈ H → dpf x.2 ≤ 200) (hw : wdf gf + hws H ≤ 1000) (hn : 1400 ≤ n) : ∀ z j, j + z = H.length → lp (st_X11_provableBy (n + 2)) (11, [.ref 89, .int (nI f), .int (nI (wdf gf + hws (H.take j))), .int (nI j)], M) = if wdf gf + hws H ≤ 40 then lp (st_X11_provableBy (n + 2)) (57, [.ref 89, .int (nI f), .int 0, .int 0], wI M 89 24 0) else some (-4, M) := by
  have h6 := hH.2.1
  intro z
  induction z with
  | zero =>
    intro j hj
    rw [List.take_of_length_le (by omega)]
    refine (ge_X11_provableBy_11 (n + 2) 89 (nI f) (nI (wdf gf + hws H)) (nI j) M).trans ?_
    unfold T_X11_provableBy_11
    have hle : (nI H.length ≤ nI j) = True := eq_true (by rw [nI_le_ (by omega) (by omega)]; omega)
    by_cases q : wdf gf + hws H ≤ 40
    · have q' : (nI (wdf gf + hws H) ≤ (40 : Int32)) = True := eq_true (by rw [show (40 : Int32) = nI 40 from rfl, nI_le_ (by omega) (by omega)]; exact q)
      simp only [↓gd_pos (fO_R hW), hH.1, hle, q', ↓reduceIte]
      rw [if_pos q]
    · have q' : (nI (wdf gf + hws H) ≤ (40 : Int32)) = False := eq_false (by rw [show (40 : Int32) = nI 40 from rfl, nI_le_ (by omega) (by omega)]; exact q)
      simp only [↓gd_pos (fO_R hW), hH.1, hle, q', ↓reduceIte]
      rw [if_neg q]
  | succ z ih =>
    intro j hj
    have hjl : j < H.length := by omega
    obtain ⟨-, v, v1, v2, v3⟩ := hH.2.2 j hjl
    have y := rx_wordsOf hW hT 200 (n + 1 - 201) v v1 (by rw [v3]; exact hd _ (List.getElem_mem hjl))
    rw [show 200 + 1 + (n + 1 - 201) = n + 1 by omega, v3] at y
    have fA98 : fA M 98 1 (nI j) := ⟨by rw [hW.1]; omega, 6, s_98 hW, vp_nI (by omega) (by omega)⟩
    have hle : (nI H.length ≤ nI j) = False := eq_false (by rw [nI_le_ (by omega) (by omega)]; omega)
    have es : hws (H.take (j + 1)) = hws (H.take j) + wdf H[j].2 := by
      rw [List.take_succ_eq_append_getElem hjl, hws_app]
      rfl
    have ea : nI (wdf gf + hws (H.take j)) + nI (wdf H[j].2) = nI (wdf gf + hws (H.take (j + 1))) := by rw [es, ← Nat.add_assoc]; exact (Int32.ofNat_add _ _).symm
    rw [← ih (j + 1) (by omega)]
    refine (ge_X11_provableBy_11 (n + 2) 89 (nI f) (nI (wdf gf + hws (H.take j))) (nI j) M).trans ?_
    unfold T_X11_provableBy_11
    simp (disch := omega) only [↓gd_pos (fO_R hW), hH.1, hle, ↓reduceIte, ↓bnd_of (r_89_11 hW), ↓gd_pos fA98, nI_z, v2, ↓bnd2_of (show cal (n + 2) (fun zz => f_X11_wordsOf zz 89 (nI v) M) = _ from y), ea, nI_1]
theorem pb_57 (hW : Wd M) (hT : TabR M c) (hH : HyR M 15 96 97 98 c H) : ∀ z j, j + z = H.length → ∀ (M1 : Mem) (l : List Fm), Fr (S125 0) M M1 → HdR M1 c 0 l → l.Nodup → (∀ x, x ∈ l → hyF H x) → (∀ j' (h : j' < H.length), j' < j → H[j'].2 ∈ l) → l.length ≤ j → wS l ≤ wMs (H.take j) → ∃ M2 l2, lp (st_X11_provableBy (n + 2)) (57, [.ref 89, .int (nI f), .int (nI l.length), .int (nI j)], M1) = lp (st_X11_provableBy (n + 2)) (57, [.ref 89, .int (nI f), .int (nI (0 + l2.length)), .int (nI H.length)], M2) ∧ Fr (S125 0) M M2 ∧ HdR M2 c 0 l2 ∧ l2.Nodup ∧ (∀ x, x ∈ l2 ↔ hyF H x) ∧ wS l2 ≤ wMs H := by
  have h6 := hH.2.1
  intro z
  induction z with
  | zero =>
    intro j hj M1 l F1 H1 hn hm ha hlen hw
    have ej : j = H.length := by omega
    subst ej
    refine ⟨M1, l, by rw [Nat.zero_add], F1, H1, hn, fun x => ⟨hm x, fun ⟨y, hy, e⟩ => ?_⟩, by rw [List.take_length] at hw; exact hw⟩
    obtain ⟨i, hi, e2⟩ := List.getElem_of_mem hy
    rw [e, ← e2]
    exact ha i hi hi
  | succ z ih =>
    intro j hj M1 l F1 H1 hn hm ha hlen hw
    have hjl : j < H.length := by omega
    obtain ⟨-, v, v1, v2, v3⟩ := hH.2.2 j hjl
    have hW1 := F1.Wd hW
    have fA98 : fA M1 98 1 (nI j) := ⟨by rw [hW1.1]; omega, 6, s_98 hW1, vp_nI (by omega) (by omega)⟩
    have hle : (nI H.length ≤ nI j) = False := eq_false (by rw [nI_le_ (by omega) (by omega)]; omega)
    have i15 : M1.2.2.1 89 15 = nI H.length := (F1.int (fun z => by have := z.1; omega)).trans hH.1
    have i98 : M1.2.2.1 98 j = nI v := (F1.int (fun z => by have := z.1; omega)).trans v2
    obtain ⟨M2, y, F2, H2⟩ := rx_withHad hW1 (t125 F1 hT) H1 v1 (by omega) n
    rw [show dR M1 v = H[j].2 by rw [d125 F1]; exact v3, Nat.zero_add, Nat.zero_add] at y
    rw [show dR M1 v = H[j].2 by rw [d125 F1]; exact v3] at H2
    have F02 : Fr (S125 0) M M2 := F1.trans (F2.mono (fun a k z => ⟨z.1, Nat.zero_le _⟩))
    have es : wMs (H.take (j + 1)) = wMs (H.take j) + wM H[j].2 := by
      rw [List.take_succ_eq_append_getElem hjl, wMs_app]
      rfl
    have w1 := adl_wS (l := l) (x := H[j].2)
    have ll : (adl l H[j].2).length ≤ l.length + 1 := by
      unfold adl
      rcases Classical.em (H[j].2 ∈ l) with z | z
      · rw [itc_pos z]; omega
      · rw [itc_neg z, List.length_append]; exact Nat.le_refl _
    obtain ⟨M3, l3, y3, r3⟩ := ih (j + 1) (by omega) M2 (adl l H[j].2) F02 H2 (adl_nd hn) (fun x hx => (adl_mem.mp hx).elim (hm x) (fun e => ⟨H[j], List.getElem_mem hjl, e⟩)) (fun j' h' hh => adl_mem.mpr (by
      by_cases e : j' = j
      · subst e; exact Or.inr rfl
      · exact Or.inl (ha j' h' (by omega)))) (by omega) (by omega)
    refine ⟨M3, l3, ?_, r3⟩
    rw [← y3]
    refine (ge_X11_provableBy_57 (n + 2) 89 (nI f) (nI l.length) (nI j) M1).trans ?_
    unfold T_X11_provableBy_57
    simp (disch := omega) only [↓gd_pos (fO_R hW1), i15, hle, ↓reduceIte, ↓bnd_of (r_89_11 hW1), ↓gd_pos fA98, nI_z, i98, ↓bnd2_of (show cal (n + 2) (fun zz => f_X11_withHad zz 89 0 (nI l.length) (nI v) M1) = _ from y), nI_1]
set_option maxHeartbeats 1000000 in
theorem rx_provableBy (hW : Wd M) (hT : TabR M c) (hH : HyR M 15 96 97 98 c H) (hG : GlR M c gf) (hf : f < c) (hfG : dR M f = G) (hw : wG G ≤ wG gf) (ha : Sub (ag G) (ag gf)) (hc : c + 41 < 16384) (hd : ∀ x, x ∈ H → dpf x.2 ≤ 200) (hdg : dpf gf ≤ 200) (ht : ∀ x, x ∈ H → 2 * lea x.2 + nt x.2 ≤ 31) (htg : 2 * lea gf + nt gf ≤ 31) (hw1 : wdf gf + hws H ≤ 1000) (hn : 1400 ≤ n) : (40 < wdf gf + hws H → f_X11_provableBy (n + 2) 89 (nI f) M = some (-4, M)) ∧ (wdf gf + hws H ≤ 40 → ∃ v M1 c1, f_X11_provableBy (n + 2) 89 (nI f) M = some (v, M1) ∧ ((v = 1 ∧ Ent (hyF H) G) ∨ (v = 0 ∧ ¬ Ent (hyF H) G)) ∧ Gwr (wI M 89 24 0) c 0 M1 c1 ∧ c1 ≤ c + 41) := by
  obtain ⟨g, g1, g2, g3⟩ := hG
  have y0 := rx_wordsOf hW hT 200 (n + 1 - 201) g g1 (by rw [g3]; exact hdg)
  rw [show 200 + 1 + (n + 1 - 201) = n + 1 by omega, g3] at y0
  have start : f_X11_provableBy (n + 2) 89 (nI f) M = if wdf gf + hws H ≤ 40 then lp (st_X11_provableBy (n + 2)) (57, [.ref 89, .int (nI f), .int 0, .int 0], wI M 89 24 0) else some (-4, M) := by
    rw [← pb_11 (f := f) hW hT hH hd hw1 hn H.length 0 (by omega)]
    refine (ge_X11_provableBy_0 (n + 2) 89 (nI f) M).trans ?_
    unfold T_X11_provableBy_0
    simp only [↓gd_pos (fO_R hW), g2, ↓bnd2_of (show cal (n + 2) (fun zz => f_X11_wordsOf zz 89 (nI g) M) = _ from y0)]
    rfl
  constructor
  · intro q
    rw [start, if_neg (by omega)]
  · intro q
    rw [if_pos q] at start
    have F0 : Fr (fun a k => a = 89 ∧ k = 24) M (wI M 89 24 0) := Fr.refl.wI ⟨rfl, rfl⟩ _
    obtain ⟨T0, d0⟩ := tabR_mv hT F0 (by omega) (fun a k z => by omega)
    have H0 : HyR (wI M 89 24 0) 15 96 97 98 c H := hH.mv F0 (by omega) (fun a k z => by omega) (fun i _ => d0 i) (Nat.le_refl _)
    have hW0 := F0.Wd hW
    obtain ⟨M2, l2, y2, F2, H2, n2, m2, w2⟩ := pb_57 (n := n) (f := f) hW0 T0 H0 H.length 0 (by omega) (wI M 89 24 0) [] Fr.refl (fun i hi => absurd hi (Nat.not_lt_zero _)) List.nodup_nil (fun x hx => absurd hx (by simp)) (fun j' h' hh => absurd hh (Nat.not_lt_zero _)) (Nat.le_refl _) (Nat.zero_le _)
    have start := start.trans y2
    have hP : (grH H ++ ag gf).length ≤ 40 := by
      rw [List.length_append]
      have h1 := grH_len H
      have h2 := (gs_len gf).2.2
      omega
    have hS : HsS (grH H ++ ag gf) c M2 c 0 l2 := ⟨F2.Wd hW0, t125 F2 T0, Nat.le_refl _, fun i h1 h2 => by omega, H2, n2, fun x hx z hz => by
      obtain ⟨y, hy, e⟩ := (m2 x).mp hx
      rw [e] at hz
      exact List.mem_append_left _ (grH_sub H y hy z hz)⟩
    have dG : dR M2 f = G := by rw [d125 F2]; exact (d0 f).trans hfG
    have wt := w_top ht htg q
    obtain ⟨v, M3, c3, k1, k2, k3, k4⟩ := cp_all hP hc (wS l2 + wG G + 1) (n + 1) (by omega) M2 c 0 l2 f hS hf (by rw [dG]; exact fun z hz => List.mem_append_right _ (ha z hz)) (by rw [dG]; omega) (by rw [dG]; omega)
    rw [dG] at k2
    have em : (fun x => x ∈ l2) = hyF H := funext fun x => propext (m2 x)
    have k2 : (v = 1 ∧ Ent (hyF H) G) ∨ (v = 0 ∧ ¬ Ent (hyF H) G) := by rw [← em]; exact k2
    have g02 : Gwr (wI M 89 24 0) c 0 M2 c := Gwr.row F2 T0
    have hlen := new_len (E := (Jvm.Term.arg 8) :: (grH H ++ ag gf)) k3.2.1 k4
    refine ⟨v, M3, c3, start.trans ?_, k2, g02.trans k3 (Nat.zero_le _), by
      have e : ((Jvm.Term.arg 8) :: (grH H ++ ag gf)).length = (grH H ++ ag gf).length + 1 := rfl
      omega⟩
    refine (ge_X11_provableBy_57 (n + 2) 89 (nI f) (nI (0 + l2.length)) (nI H.length) M2).trans ?_
    unfold T_X11_provableBy_57
    have h6 := hH.2.1
    have hle : (nI H.length ≤ nI H.length) = True := eq_true (by rw [nI_le_ (by omega) (by omega)]; omega)
    have i15 : M2.2.2.1 89 15 = nI H.length := (F2.int (fun z => by have := z.1; omega)).trans H0.1
    rcases k2 with ⟨rfl, -⟩ | ⟨rfl, -⟩
    · simp only [↓gd_pos (fO_R hS.1), i15, hle, ↓reduceIte, ↓bnd2_of (show cal (n + 2) (fun zz => f_X11_canProve zz 89 0 (nI (0 + l2.length)) (nI f) M2) = _ from k1), show ((1 : Int32) = 0) = False from eq_false (by decide)]
    · simp only [↓gd_pos (fO_R hS.1), i15, hle, ↓reduceIte, ↓bnd2_of (show cal (n + 2) (fun zz => f_X11_canProve zz 89 0 (nI (0 + l2.length)) (nI f) M2) = _ from k1)]
end PB0
