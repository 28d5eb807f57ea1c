/-! THE REFERENCE's STATE, and tidying it -/
theorem php : ∀ (m n : Nat) (g : Nat → Nat), (∀ i, i < n → g i < m) → (∀ i j, i < n → j < n → g i = g j → i = j) → n ≤ m := by
  intro m
  induction m with
  | zero =>
    intro n g h _
    apply Nat.le_of_not_lt
    intro q
    have := h 0 q
    omega
  | succ m ih =>
    intro n g h hi
    by_cases q : ∃ i, i < n ∧ g i = m
    · obtain ⟨i0, h0, e0⟩ := q
      have := ih (n - 1) (fun i => if i < i0 then g i else g (i + 1)) (fun i hin => by
        show (if i < i0 then g i else g (i + 1)) < m
        split
        · rename_i z
          have a1 := h i (by omega)
          have a2 : g i ≠ m := fun y => by have := hi i i0 (by omega) h0 (y.trans e0.symm); omega
          omega
        · rename_i z
          have a1 := h (i + 1) (by omega)
          have a2 : g (i + 1) ≠ m := fun y => by have := hi (i + 1) i0 (by omega) h0 (y.trans e0.symm); omega
          omega) (fun i j hin hjn e => by
        have e : (if i < i0 then g i else g (i + 1)) = (if j < i0 then g j else g (j + 1)) := e
        split at e <;> split at e
        · exact hi i j (by omega) (by omega) e
        · have := hi i (j + 1) (by omega) (by omega) e; omega
        · have := hi (i + 1) j (by omega) (by omega) e; omega
        · have := hi (i + 1) (j + 1) (by omega) (by omega) e; omega)
      omega
    · have := ih n g (fun i hin => by
        have a1 := h i hin
        have a2 : g i ≠ m := fun y => q ⟨i, hin, y⟩
        omega) hi
      omega
theorem cnt_le {E : Nat → Fm} {N n : Nat} {g : Nat → Fm} (h : ∀ i, i < n → ∃ j, j < N ∧ E j = g i) (hi : ∀ i j, i < n → j < n → g i = g j → i = j) : n ≤ N := by
  have hk : ∀ i, ∃ j, i < n → j < N ∧ E j = g i := fun i => by
    by_cases q : i < n
    · obtain ⟨j, hj⟩ := h i q
      exact ⟨j, fun _ => hj⟩
    · exact ⟨0, fun z => absurd z q⟩
  refine php N n (fun i => (hk i).choose) (fun i hin => ((hk i).choose_spec hin).1) (fun i j hin hjn e => hi i j hin hjn ?_)
  have a1 := ((hk i).choose_spec hin).2
  have a2 := ((hk j).choose_spec hjn).2
  have e : (hk i).choose = (hk j).choose := e
  rw [← a1, ← a2, e]
/-- a set of formulas with all their parts, of no more than the class has room for -/
def Cls (CI : Fm → Prop) : Prop := (∀ j a b, 9 ≤ j → j ≤ 11 → CI (mkF j a b) → CI a ∧ CI b) ∧ ∃ E : Nat → Fm, ∀ f, CI f → ∃ i, i < 5200 ∧ E i = f
theorem Inn_cls {M : Mem} {c : Nat} (h : TabC M c) : Cls (Inn M c) := by
  refine ⟨fun j a b h1 h2 ⟨v, hv, e⟩ => ?_, dC M, fun f ⟨v, hv, e⟩ => ⟨v, by have := h.2.1; omega, e⟩⟩
  obtain ⟨x, y, hx, hy, -, -, ex, ey⟩ := h.two hv h1 h2 e
  exact ⟨⟨x, hx, ex⟩, ⟨y, hy, ey⟩⟩
theorem Cls.cap0 {CI : Fm → Prop} (h : Cls CI) {c0 : Nat} (hc : c0 + 5200 < 16384) : HCp c0 CI := by
  intro M c hT hN
  obtain ⟨E, hE⟩ := h.2
  have := cnt_le (E := E) (N := 5200) (n := c - c0) (g := fun i => dR M (c0 + i)) (fun i hi => hE _ (hN _ (by omega) (by omega))) (fun i j hi hj e => by
    have := hT.inj (show c0 + i < c by omega) (show c0 + j < c by omega) e
    omega)
  omega
/-- the parts of a formula by their places -/
def nthF : Fm → Nat → Fm
  | .add a b, p => if p = 0 then .add a b else if p - 1 < wdf a then nthF a (p - 1) else nthF b (p - 1 - wdf a)
  | .mul a b, p => if p = 0 then .mul a b else if p - 1 < wdf a then nthF a (p - 1) else nthF b (p - 1 - wdf a)
  | .sub a b, p => if p = 0 then .sub a b else if p - 1 < wdf a then nthF a (p - 1) else nthF b (p - 1 - wdf a)
  | f, _ => f
theorem wdf_pos (f : Fm) : 0 < wdf f := by
  cases f with
  | add a b => show 0 < 1 + wdf a + wdf b; omega
  | mul a b => show 0 < 1 + wdf a + wdf b; omega
  | sub a b => show 0 < 1 + wdf a + wdf b; omega
  | _ => exact Nat.one_pos
theorem nthF_0 (f : Fm) : nthF f 0 = f := by
  cases f <;> first | rfl | (rw [nthF]; rfl)
theorem nthF_step {F a b x y : Fm} {j : Nat} (h1 : 9 ≤ j) (h2 : j ≤ 11) (hw : wdf F = 1 + wdf a + wdf b) (hn : ∀ p, nthF F p = if p = 0 then F else if p - 1 < wdf a then nthF a (p - 1) else nthF b (p - 1 - wdf a)) (hF : ∀ j x y, 9 ≤ j → j ≤ 11 → F = mkF j x y → x = a ∧ y = b) (ia : ∀ {p : Nat}, p < wdf a → nthF a p = mkF j x y → (∃ q, q < wdf a ∧ nthF a q = x) ∧ ∃ q, q < wdf a ∧ nthF a q = y) (ib : ∀ {p : Nat}, p < wdf b → nthF b p = mkF j x y → (∃ q, q < wdf b ∧ nthF b q = x) ∧ ∃ q, q < wdf b ∧ nthF b q = y) {p : Nat} (hp : p < wdf F) (h : nthF F p = mkF j x y) : (∃ q, q < wdf F ∧ nthF F q = x) ∧ ∃ q, q < wdf F ∧ nthF F q = y := by
  have pa := wdf_pos a
  have pb := wdf_pos b
  have inA : ∀ q, q < wdf a → nthF F (q + 1) = nthF a q := fun q hq => by rw [hn, if_neg (by omega), if_pos (by omega), show q + 1 - 1 = q by omega]
  have inB : ∀ q, nthF F (q + wdf a + 1) = nthF b q := fun q => by rw [hn, if_neg (by omega), if_neg (by omega), show q + wdf a + 1 - 1 - wdf a = q by omega]
  rw [hn] at h
  by_cases p0 : p = 0
  · rw [if_pos p0] at h
    obtain ⟨rfl, rfl⟩ := hF j x y h1 h2 h
    exact ⟨⟨0 + 1, by omega, by rw [inA 0 (by omega), nthF_0]⟩, ⟨0 + wdf x + 1, by omega, by rw [inB 0, nthF_0]⟩⟩
  · rw [if_neg p0] at h
    by_cases p1 : p - 1 < wdf a
    · rw [if_pos p1] at h
      obtain ⟨⟨q1, g1, g2⟩, ⟨q2, g3, g4⟩⟩ := ia p1 h
      exact ⟨⟨q1 + 1, by omega, by rw [inA q1 g1, g2]⟩, ⟨q2 + 1, by omega, by rw [inA q2 g3, g4]⟩⟩
    · rw [if_neg p1] at h
      obtain ⟨⟨q1, g1, g2⟩, ⟨q2, g3, g4⟩⟩ := ib (show p - 1 - wdf a < wdf b by omega) h
      exact ⟨⟨q1 + wdf a + 1, by omega, by rw [inB q1, g2]⟩, ⟨q2 + wdf a + 1, by omega, by rw [inB q2, g4]⟩⟩
theorem mkF_add {j : Nat} {x y a b : Fm} (h1 : 9 ≤ j) (h2 : j ≤ 11) {i : Nat} (h3 : 9 ≤ i) (h4 : i ≤ 11) (e : mkF i a b = mkF j x y) : x = a ∧ y = b := by
  have := mkF_inj h3 h4 h1 h2 e
  exact ⟨this.2.1.symm, this.2.2.symm⟩
theorem nthF_pt (f : Fm) : ∀ {p j : Nat} {x y : Fm}, 9 ≤ j → j ≤ 11 → p < wdf f → nthF f p = mkF j x y → (∃ q, q < wdf f ∧ nthF f q = x) ∧ ∃ q, q < wdf f ∧ nthF f q = y := by
  induction f with
  | add a b ia ib =>
    intro p j x y h1 h2 hp h
    exact nthF_step h1 h2 rfl (fun p => by rw [nthF]) (fun j x y h1 h2 e => mkF_add h1 h2 (i := 9) (by omega) (by omega) e) (ia h1 h2) (ib h1 h2) hp h
  | mul a b ia ib =>
    intro p j x y h1 h2 hp h
    exact nthF_step h1 h2 rfl (fun p => by rw [nthF]) (fun j x y h1 h2 e => mkF_add h1 h2 (i := 10) (by omega) (by omega) e) (ia h1 h2) (ib h1 h2) hp h
  | sub a b ia ib =>
    intro p j x y h1 h2 hp h
    exact nthF_step h1 h2 rfl (fun p => by rw [nthF]) (fun j x y h1 h2 e => mkF_add h1 h2 (i := 11) (by omega) (by omega) e) (ia h1 h2) (ib h1 h2) hp h
  | _ =>
    intro p j x y h1 h2 hp h
    exfalso
    have hj : j = 9 ∨ j = 10 ∨ j = 11 := by omega
    rcases hj with rfl | rfl | rfl <;> simp [nthF, mkF] at h
section STA
variable {M : Mem} {c : Nat} {CI : Fm → Prop}
def GlR (M : Mem) (c : Nat) (gf : Fm) : Prop := ∃ v, v < c ∧ M.2.2.1 89 16 = nI v ∧ dR M v = gf
def SlR (M : Mem) (c : Nat) (T : Nat → Option Tm) : Prop := ∀ s, s < 4 → (T s = none → M.2.2.1 104 s = 0) ∧ ∀ t, T s = some t → M.2.2.1 104 s = nI (sz t) ∧ RowR M 102 103 (200 * s) c (rws t)
def OkF (CI : Fm → Prop) (f : Fm) : Prop := CI f ∧ dpf f ≤ 200
def OkT (CI : Fm → Prop) (t : Tm) : Prop := isT t ∧ sz t ≤ 200 ∧ ∀ nd, nd ∈ rws t → tf nd.1 → OkF CI nd.2
/-- the row worked at: its formulas are of the class's, or short -/
def WkG (M : Mem) (c : Nat) (CI : Fm → Prop) (z : Nat) : Prop := ∃ m, m ≤ 400 ∧ M.2.2.1 89 24 = nI m ∧ ∀ i, i < m → M.2.2.1 105 i = 0 ∨ M.2.2.1 106 i < 0 ∨ ∃ v, v < c ∧ M.2.2.1 106 i = nI v ∧ dpf (dR M v) ≤ 200 ∧ (CI (dR M v) ∨ (i < z ∧ wdf (dR M v) ≤ 60))
theorem row_tid {M M1 : Mem} {c c1 ak aa b : Nat} {l : List (Nat × Tm)} (h : RowR M ak aa b c l) (hk : ∀ i, i < l.length → M1.2.2.1 ak (b + i) = M.2.2.1 ak (b + i)) (hs : ∀ i, i < l.length → SmA M M1 c c1 (M.2.2.1 ak (b + i)) (M.2.2.1 aa (b + i)) (M1.2.2.1 aa (b + i))) (hc : c ≤ 16384) : RowR M1 ak aa b c1 l := by
  refine ⟨h.1, fun i nd hi => ?_⟩
  have hl := (opl_of hi).2.2
  obtain ⟨a1, a2, a3, a4⟩ := h.2 i nd hi
  have ho := h.1 nd (List.mem_of_getElem? hi)
  have := hs i hl
  rw [hk i hl, a1]
  refine ⟨rfl, fun q => ?_, fun q => ?_, fun q1 q2 => ?_⟩
  · unfold SmA at this
    rw [if_pos (Or.inl (by rw [a1, q]; rfl))] at this
    rw [this]
    exact a2 q
  · obtain ⟨v, v1, v2, v3⟩ := a3 q
    unfold SmA at this
    have hne : ¬ (M.2.2.1 ak (b + i) = 0 ∨ M.2.2.1 aa (b + i) < 0) := by
      rw [a1, v2]
      intro z
      rcases z with z | z
      · have := (nI_eq (b := 0) (by omega) (by omega)).mp z
        unfold tf at q
        omega
      · rw [nI_lt0 (by omega)] at z
        exact z
    rw [if_neg hne] at this
    obtain ⟨u, u1, u2, u3⟩ := this v v1 v2
    exact ⟨u, u1, u2, u3.trans v3⟩
  · have hx := a4 q1 q2
    unfold SmA at this
    rw [if_pos (Or.inr (by rw [hx]; decide))] at this
    rw [this, hx]
def mmT (T : Nat → Option Tm) (s : Nat) : Nat := match T s with
  | none => 0
  | some t => sz t
/-- but few formulas are other than the class's -/
def FewR (M : Mem) (c : Nat) (CI : Fm → Prop) (K : Nat) : Prop := ∃ E : Nat → Fm, NewR M c 0 (fun f => CI f ∨ ∃ j, j < K ∧ E j = f)
/-- a node's label, where it tells a formula -/
theorem row_nb {ak aa b : Nat} {l : List (Nat × Tm)} (h : RowR M ak aa b c l) {P : Fm → Prop} (hP : ∀ nd, nd ∈ l → tf nd.1 → P nd.2) {i : Nat} (hi : i < l.length) : M.2.2.1 ak (b + i) = 0 ∨ M.2.2.1 aa (b + i) < 0 ∨ ∃ v, v < c ∧ M.2.2.1 aa (b + i) = nI v ∧ P (dR M v) := by
  obtain ⟨a1, a2, a3, a4⟩ := h.2 i _ (opl_get hi)
  by_cases q : opl l i = 1
  · left; rw [a1]; rw [show (opl l i, lbl l i).1 = 1 from q]; rfl
  · by_cases z : tf (opl l i)
    · obtain ⟨v, v1, v2, v3⟩ := a3 z
      exact Or.inr (Or.inr ⟨v, v1, v2, by rw [v3]; exact hP _ (List.mem_of_getElem? (opl_get hi)) z⟩)
    · right; left; rw [a4 q z]; decide
set_option maxHeartbeats 1000000 in
theorem tid_all (hW : Wd M) (hT : TabR M c) (h8 : M.2.2.1 89 8 = 0) {H : List (Nat × Fm)} (hH : HyR M 15 96 97 98 c H) (hHc : ∀ x, x ∈ H → OkF CI x.2) {gf : Fm} (hG : GlR M c gf) (hGc : OkF CI gf) {T : Nat → Option Tm} (hS : SlR M c T) (hTm : ∀ s t, s < 4 → T s = some t → OkT CI t) {z : Nat} (hz : z ≤ 121) (hK : WkG M c CI z) (hCl : Cls CI) (k : Nat) : ∃ c1 M1, f_X11_tidies (k + 203) 89 M = some ((), M1) ∧ Fr STd M M1 ∧ TabR M1 c1 ∧ HyR M1 15 96 97 98 c1 H ∧ GlR M1 c1 gf ∧ SlR M1 c1 T ∧ WkG M1 c1 CI z ∧ (FewR M1 c1 CI 8191 ∧ c1 ≤ 12460 ∧ (z = 0 → c1 ≤ 8191)) ∧ ∀ l, WrkR M c l → WrkR M1 c1 l := by
  have hc4 := hT.2.1
  obtain ⟨m, hm4, h24, hwk⟩ := hK
  have hmm : ∀ s, s < 4 → mmT T s ≤ 200 ∧ M.2.2.1 104 s = nI (mmT T s) ∧ ∀ i, i < mmT T s → ∃ t, T s = some t ∧ i < (rws t).length ∧ RowR M 102 103 (200 * s) c (rws t) := by
    intro s hs
    unfold mmT
    cases hTs : T s with
    | none => exact ⟨Nat.zero_le _, (hS s hs).1 hTs, fun i hi => absurd (show i < 0 from hi) (by omega)⟩
    | some t =>
      obtain ⟨g1, g2⟩ := (hS s hs).2 t hTs
      exact ⟨(hTm s t hs hTs).2.1, g1, fun i hi => ⟨t, rfl, hi, g2⟩⟩
  have slot : ∀ s, s < 4 → ∀ i, i < mmT T s → M.2.2.1 102 (200 * s + i) = 0 ∨ M.2.2.1 103 (200 * s + i) < 0 ∨ ∃ v, v < c ∧ M.2.2.1 103 (200 * s + i) = nI v ∧ OkF CI (dR M v) := by
    intro s hs i hi
    obtain ⟨t, t1, t2, t3⟩ := (hmm s hs).2.2 i hi
    exact row_nb t3 (hTm s t hs t1).2.2 t2
  have hyp : ∀ j, j < H.length → ∃ v, v < c ∧ M.2.2.1 98 j = nI v ∧ OkF CI (dR M v) := fun j hj => by
    obtain ⟨-, v, v1, v2, v3⟩ := hH.2.2 j hj
    exact ⟨v, v1, v2, by rw [v3]; exact hHc _ (List.getElem_mem hj)⟩
  obtain ⟨gv, gv1, gv2, gv3⟩ := hG
  have rows : ∀ {P : Int32 → Prop}, (∀ v, v < c → OkF CI (dR M v) → P (nI v)) → (∀ i v, i < m → v < c → M.2.2.1 106 i = nI v → dpf (dR M v) ≤ 200 → (CI (dR M v) ∨ (i < z ∧ wdf (dR M v) ≤ 60)) → P (nI v)) → RowsR M P H.length (mmT T) m := by
    intro P h1 h2
    refine ⟨⟨hH.2.1, hH.1, fun j hj => ?_⟩, ?_, fun s hs => ⟨(hmm s hs).1, (hmm s hs).2.1, fun i hi => ?_⟩, hm4, h24, fun i hi => ?_⟩
    · obtain ⟨v, v1, v2, v3⟩ := hyp j hj
      rw [v2]
      exact h1 v v1 v3
    · rw [gv2]
      exact h1 gv gv1 (by rw [gv3]; exact hGc)
    · rcases slot s hs i hi with q | q | ⟨v, v1, v2, v3⟩
      · exact Or.inl q
      · exact Or.inr (Or.inl q)
      · exact Or.inr (Or.inr (by rw [v2]; exact h1 v v1 v3))
    · rcases hwk i hi with q | q | ⟨v, v1, v2, v3, v4⟩
      · exact Or.inl q
      · exact Or.inr (Or.inl q)
      · exact Or.inr (Or.inr (by rw [v2]; exact h2 i v hi v1 v2 v3 v4))
  have lab : ∀ i, ∃ f : Fm, ∀ v, v < c → M.2.2.1 106 i = nI v → f = dR M v := fun i => by
    by_cases q : ∃ v, v < c ∧ M.2.2.1 106 i = nI v
    · obtain ⟨v, v1, v2⟩ := q
      refine ⟨dR M v, fun u u1 u2 => ?_⟩
      rw [v2] at u2
      rw [(nI_eq (by omega) (by omega)).mp u2]
    · exact ⟨.arg 0, fun v v1 v2 => absurd ⟨v, v1, v2⟩ q⟩
  obtain ⟨S, hSd⟩ : ∃ S : Nat → Prop, S = fun i => CI (dR M i) ∨ ∃ w p, w < z ∧ p < wdf ((lab w).choose) ∧ wdf ((lab w).choose) ≤ 60 ∧ nthF ((lab w).choose) p = dR M i := ⟨_, rfl⟩
  have sw : ∀ i v, v < c → M.2.2.1 106 i = nI v → (CI (dR M v) ∨ (i < z ∧ wdf (dR M v) ≤ 60)) → S v := by
    intro i v v1 v2 q
    rw [hSd]
    rcases q with q | ⟨q1, q2⟩
    · exact Or.inl q
    · have e := (lab i).choose_spec v v1 v2
      refine Or.inr ⟨i, 0, q1, ?_, ?_, ?_⟩
      · rw [e]; exact wdf_pos _
      · rw [e]; exact q2
      · rw [nthF_0, e]
  obtain ⟨c1, M1, y1, F1, T1, hle, hsm, hcnt⟩ := rx_tidies hW hT (D := 200) (rows (P := NbR M c 200) (fun v v1 v2 => ⟨v, v1, rfl, v2.2⟩) (fun i v _ v1 _ v3 _ => ⟨v, v1, rfl, v3⟩)) (S := S) (fun i hi hSi a ha hor => by
    rcases hT.cases hi with ⟨j, -, -, e2, e3, -⟩ | ⟨j, a1, b1, j1, j2, ha1, hb1, -, e2, e3, e4⟩
    · rw [e2, e3] at hor
      rcases hor with q | q
      · have := nI_ne_m1 (a := a) (by omega)
        exact absurd q.symm (of_eq_false this)
      · have := nI_ne_m1 (a := a) (by omega)
        exact absurd q.symm (of_eq_false this)
    · rw [hSd] at hSi ⊢
      have hab : a = a1 ∨ a = b1 := by
        rw [e2, e3] at hor
        rcases hor with q | q
        · exact Or.inl ((nI_eq (by omega) (by omega)).mp q).symm
        · exact Or.inr ((nI_eq (by omega) (by omega)).mp q).symm
      rcases hSi with q | ⟨w, p, p1, p2, p3, p4⟩
      · rw [e4] at q
        have := hCl.1 j _ _ j1 j2 q
        rcases hab with rfl | rfl
        · exact Or.inl this.1
        · exact Or.inl this.2
      · rw [e4] at p4
        obtain ⟨⟨q1, g1, g2⟩, ⟨q2, g3, g4⟩⟩ := nthF_pt _ j1 j2 p2 p4
        rcases hab with rfl | rfl
        · exact Or.inr ⟨w, q1, p1, g1, p3, g2⟩
        · exact Or.inr ⟨w, q2, p1, g3, p3, g4⟩)
    (rows (fun v v1 v2 u u1 e => by rw [← (nI_eq (by omega) (by omega)).mp e, hSd]; exact Or.inl v2.1) (fun i v _ v1 v2 _ v4 u u1 e => by rw [← (nI_eq (by omega) (by omega)).mp e]; exact sw i v v1 v2 v4))
    (fun s hs i hi hne v v1 v2 => by
      rcases slot s hs i hi with q | q | ⟨u, u1, u2, u3⟩
      · exact absurd q hne
      · rw [v2, nI_lt0 (by omega)] at q; exact q.elim
      · rw [u2] at v2
        rw [← (nI_eq (by omega) (by omega)).mp v2, hSd]
        exact Or.inl u3.1)
    (fun i hi hne v v1 v2 => by
      rcases hwk i hi with q | q | ⟨u, u1, u2, u3, u4⟩
      · exact absurd q hne
      · rw [v2, nI_lt0 (by omega)] at q; exact q.elim
      · rw [u2] at v2
        rw [← (nI_eq (by omega) (by omega)).mp v2]
        exact sw i u u1 u2 u4) k
  obtain ⟨s1, s2, s3, s4⟩ := hsm
  have i102 : M1.2.2.1 102 = M.2.2.1 102 := funext fun i => F1.int (by unfold STd; omega)
  have i105 : M1.2.2.1 105 = M.2.2.1 105 := funext fun i => F1.int (by unfold STd; omega)
  refine ⟨c1, M1, by rw [show k + 203 = 200 + 3 + k by omega]; exact y1, F1, T1, ⟨(F1.int (by unfold STd; omega)).trans hH.1, hH.2.1, fun j hj => ?_⟩, ?_, fun s hs => ⟨fun q => ?_, fun t q => ?_⟩, ⟨m, hm4, (F1.int (by unfold STd; omega)).trans h24, fun i hi => ?_⟩, ?_, fun l hl => ?_⟩
  · obtain ⟨⟨f, n, g1, g2, g3, g4⟩, v, v1, v2, v3⟩ := hH.2.2 j hj
    obtain ⟨u, u1, u2, u3⟩ := s1 j hj v v1 v2
    exact ⟨⟨f, n, g1, g2, (F1.int (by unfold STd; omega)).trans g3, fun i hi => (F1.int (by unfold STd; omega)).trans (g4 i hi)⟩, u, u1, u2, u3.trans v3⟩
  · obtain ⟨u, u1, u2, u3⟩ := s2 gv gv1 gv2
    exact ⟨u, u1, u2, u3.trans gv3⟩
  · exact (F1.int (by unfold STd; omega)).trans ((hS s hs).1 q)
  · obtain ⟨g1, g2⟩ := (hS s hs).2 t q
    refine ⟨(F1.int (by unfold STd; omega)).trans g1, row_tid g2 (fun i _ => by rw [i102]) (fun i hi => s3 s hs i ?_) (by omega)⟩
    unfold mmT
    rw [q]
    exact hi
  · have := s4 i hi
    rw [i105]
    rcases hwk i hi with q | q | ⟨v, v1, v2, v3, v4⟩
    · exact Or.inl q
    · by_cases q0 : M.2.2.1 105 i = 0
      · exact Or.inl q0
      · unfold SmA at this
        rw [if_pos (Or.inr q)] at this
        rw [this]
        exact Or.inr (Or.inl q)
    · by_cases q0 : M.2.2.1 105 i = 0
      · exact Or.inl q0
      · unfold SmA at this
        rw [if_neg (fun q => by rw [v2, nI_lt0 (by omega)] at q; exact q.elim q0 id)] at this
        obtain ⟨u, u1, u2, u3⟩ := this v v1 v2
        exact Or.inr (Or.inr ⟨u, u1, u2, by rw [u3]; exact v3, by rw [u3]; exact v4⟩)
  · rcases hcnt h8 with q | q
    · exact ⟨⟨dR M1, fun i _ hi => Or.inr ⟨i, by omega, rfl⟩⟩, by omega, fun _ => by omega⟩
    · suffices hc1 : c1 ≤ 5200 + 60 * z by
        refine ⟨⟨fun i => nthF ((lab (i / 60)).choose) (i % 60), fun v _ hv => ?_⟩, by omega, fun e => by omega⟩
        obtain ⟨i, i1, i2, i3⟩ := q v hv
        rw [hSd] at i2
        rcases i2 with g | ⟨w, p, p1, p2, p3, p4⟩
        · exact Or.inl (by rw [i3]; exact g)
        · refine Or.inr ⟨60 * w + p, by omega, ?_⟩
          show nthF ((lab ((60 * w + p) / 60)).choose) ((60 * w + p) % 60) = _
          rw [show (60 * w + p) / 60 = w by omega, show (60 * w + p) % 60 = p by omega, p4, i3]
      obtain ⟨E, hE⟩ := hCl.2
      refine cnt_le (E := fun i => if i < 5200 then E i else nthF ((lab ((i - 5200) / 60)).choose) ((i - 5200) % 60)) (g := dR M1) (fun v hv => ?_) (fun i j hi hj e => T1.inj hi hj e)
      obtain ⟨i, i1, i2, i3⟩ := q v hv
      rw [hSd] at i2
      rcases i2 with g | ⟨w, p, p1, p2, p3, p4⟩
      · obtain ⟨x, x1, x2⟩ := hE _ g
        exact ⟨x, by omega, by show (if x < 5200 then E x else _) = _; rw [if_pos x1, x2, i3]⟩
      · refine ⟨5200 + 60 * w + p, by omega, ?_⟩
        show (if 5200 + 60 * w + p < 5200 then _ else nthF ((lab ((5200 + 60 * w + p - 5200) / 60)).choose) ((5200 + 60 * w + p - 5200) % 60)) = _
        rw [if_neg (by omega), show 5200 + 60 * w + p - 5200 = 60 * w + p by omega, show (60 * w + p) / 60 = w by omega, show (60 * w + p) % 60 = p by omega, p4, i3]
  · have hlm : l.length = m := by
      have := hl.1
      rw [h24] at this
      exact ((nI_eq (by omega) (by have := hl.2.1; omega)).mp this).symm
    refine ⟨(F1.int (by unfold STd; omega)).trans hl.1, hl.2.1, row_tid hl.2.2 (fun i _ => by rw [i105]) (fun i hi => ?_) (by omega)⟩
    rw [Nat.zero_add]
    exact s4 i (by omega)
end STA
