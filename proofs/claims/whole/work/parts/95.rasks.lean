/-! ASKS in the reference, along the tree: pieces -/
def TyR (M : Mem) (c i : Nat) (f : Fm) : Prop := ∃ v, v < c ∧ M.2.2.1 113 i = nI v ∧ dR M v = f
def SAq (p e d a j : Nat) : Prop := SR a j ∨ (a = 89 ∧ (j = 30 ∨ j = 31 ∨ j = 43)) ∨ ((a = 113 ∨ a = 114) ∧ p ≤ j ∧ j < e) ∨ (a = 115 ∧ d ≤ j)
/-- formulas behind a number are of a set -/
def NewR (M : Mem) (c c0 : Nat) (CI : Fm → Prop) : Prop := ∀ i, c0 ≤ i → i < c → CI (dR M i)
def HyS (M : Mem) (c : Nat) (Hl : List (Nat × Fm)) : Prop := Hl.length ≤ 6 ∧ ∀ j, (hj : j < Hl.length) → ∃ v, v < c ∧ M.2.2.1 98 j = nI v ∧ dR M v = Hl[j].2
theorem HyR.s {M : Mem} {cn aN aL c : Nat} {Hl : List (Nat × Fm)} (h : HyR M cn aN aL 98 c Hl) : HyS M c Hl := ⟨h.2.1, fun j hj => (h.2.2 j hj).2⟩
def DpR (M : Mem) : Tm → Nat → Nat → Prop
  | .elem (.rem (.index o) _) a, p, d => M.2.2.1 114 p = nI d ∧ DpR M a (p + 1) (d + amN o 0)
  | .div (.rem (.index _) a) b, p, d => M.2.2.1 114 p = nI d ∧ DpR M a (p + 1) d ∧ DpR M b (p + 1 + sz a) d
  | .sub (.rem m a) b, p, d => M.2.2.1 114 p = nI d ∧ DpR M m (p + 1) d ∧ DpR M a (p + 1 + sz m) (d + 1) ∧ DpR M b (p + 1 + sz m + sz a) (d + 1)
  | _, p, d => M.2.2.1 114 p = nI d
theorem DpR.congr {M M1 : Mem} : ∀ t, isT t → ∀ {p d : Nat}, (∀ i, p ≤ i → i < p + sz t → M1.2.2.1 114 i = M.2.2.1 114 i) → DpR M t p d → DpR M1 t p d := by
  apply tm_ind
  · intro k p d e h; exact (e p (Nat.le_refl _) (by rw [sz_L]; omega)).trans h
  · intro k p d e h; exact (e p (Nat.le_refl _) (by rw [sz_H]; omega)).trans h
  · intro o f a _ _ ih p d e h
    rw [sz_U] at e
    exact ⟨(e p (Nat.le_refl _) (by omega)).trans h.1, ih (fun i h1 h2 => e i (by omega) (by omega)) h.2⟩
  · intro o a b _ _ _ ia ib p d e h
    rw [sz_B] at e
    exact ⟨(e p (Nat.le_refl _) (by omega)).trans h.1, ia (fun i h1 h2 => e i (by omega) (by omega)) h.2.1, ib (fun i h1 h2 => e i (by omega) (by omega)) h.2.2⟩
  · intro m a b _ _ _ im ia ib p d e h
    rw [sz_C] at e
    exact ⟨(e p (Nat.le_refl _) (by omega)).trans h.1, im (fun i h1 h2 => e i (by omega) (by omega)) h.2.1, ia (fun i h1 h2 => e i (by omega) (by omega)) h.2.2.1, ib (fun i h1 h2 => e i (by omega) (by omega)) h.2.2.2⟩
/-- the reference's table, a number at a time -/
theorem TabR.kd {M : Mem} {c : Nat} (h : TabR M c) {v : Nat} (hv : v < c) : M.2.2.1 90 v = nI (kdf (dR M v)) ∧ kdf (dR M v) ≤ 11 ∧ ∀ k, dR M v = .arg k → k < 9 := by
  rcases h.cases hv with ⟨j, hj, e1, -, -, e4⟩ | ⟨j, a, b, h1, h2, ha, hb, e1, e2, e3, e4⟩
  · rw [e4]
    exact ⟨e1, by show j ≤ 11; omega, fun k e => by cases e; exact hj⟩
  · rw [e4, kdf_mk h1 h2]
    exact ⟨e1, h2, fun k e => (mkF_ne e).elim⟩
theorem TabR.two {M : Mem} {c : Nat} (h : TabR M c) {v : Nat} (hv : v < c) {j : Nat} (h1 : 9 ≤ j) (h2 : j ≤ 11) {x y : Fm} (e : dR M v = mkF j x y) : ∃ a b, a < c ∧ b < c ∧ M.2.2.1 91 v = nI a ∧ M.2.2.1 92 v = nI b ∧ dR M a = x ∧ dR M b = y := by
  rcases h.cases hv with ⟨j', hj, e1, -, -, e4⟩ | ⟨j', a, b, g1, g2, ha, hb, e1, e2, e3, e4⟩
  · rw [e4] at e
    exact (mkF_ne e.symm).elim
  · rw [e4] at e
    obtain ⟨-, ex, ey⟩ := mkF_inj g1 g2 h1 h2 e
    exact ⟨a, b, by omega, by omega, e2, e3, ex, ey⟩
section RS
variable {c : Nat} {l : List (Nat × Tm)} {Hl : List (Nat × Fm)}
def AqB (M : Mem) (c : Nat) (M1 : Mem) (c1 p e d z : Nat) : Prop := Fr (SAq p e d) M M1 ∧ TabR M1 c1 ∧ c ≤ c1 ∧ c1 ≤ c + z ∧ ∀ i, i < c → dR M1 i = dR M i
theorem AqB.refl {M : Mem} {c p e d : Nat} (h : TabR M c) : AqB M c M c p e d 0 := ⟨Fr.refl, h, Nat.le_refl _, Nat.le_refl _, fun _ _ => rfl⟩
theorem AqB.trans {M M1 M2 : Mem} {c c1 c2 p e d p1 e1 d1 p2 e2 d2 z z1 z2 : Nat} (h : AqB M c M1 c1 p1 e1 d1 z1) (k : AqB M1 c1 M2 c2 p2 e2 d2 z2) (h1 : p ≤ p1) (h2 : e1 ≤ e) (h3 : p ≤ p2) (h4 : e2 ≤ e) (h5 : d ≤ d1) (h6 : d ≤ d2) (hz : z1 + z2 ≤ z) : AqB M c M2 c2 p e d z := by
  refine ⟨(h.1.mono (fun a j q => ?_)).trans (k.1.mono (fun a j q => ?_)), k.2.1, by have := h.2.2.1; have := k.2.2.1; omega, by have := h.2.2.2.1; have := k.2.2.2.1; omega, fun i hi => (k.2.2.2.2 i (by have := h.2.2.1; omega)).trans (h.2.2.2.2 i hi)⟩
  · unfold SAq at q ⊢
    rcases q with q | q | q | q
    · exact Or.inl q
    · exact Or.inr (Or.inl q)
    · exact Or.inr (Or.inr (Or.inl ⟨q.1, by omega, by omega⟩))
    · exact Or.inr (Or.inr (Or.inr ⟨q.1, by omega⟩))
  · unfold SAq at q ⊢
    rcases q with q | q | q | q
    · exact Or.inl q
    · exact Or.inr (Or.inl q)
    · exact Or.inr (Or.inr (Or.inl ⟨q.1, by omega, by omega⟩))
    · exact Or.inr (Or.inr (Or.inr ⟨q.1, by omega⟩))
/-- something is written that is no formula -/
theorem AqB.w {M M1 : Mem} {c c1 p e d z : Nat} (h : AqB M c M1 c1 p e d z) {a k : Nat} (x : Int32) (ha : (a = 89 ∧ (k = 30 ∨ k = 31 ∨ k = 43)) ∨ ((a = 113 ∨ a = 114) ∧ p ≤ k ∧ k < e) ∨ (a = 115 ∧ d ≤ k)) : AqB M c (wI M1 a k x) c1 p e d z := by
  have h7 : a = 89 → k ≠ 7 := by omega
  have hr : ∀ b j, (b = 90 ∨ b = 91 ∨ b = 92 ∨ b = 93 ∨ b = 94) ∨ (b = 89 ∧ j = 7) → (wI M1 a k x).2.2.1 b j = M1.2.2.1 b j := fun b j hb => by
    show (if b = a ∧ j = k then x else M1.2.2.1 b j) = _
    rw [if_neg (by omega)]
  have hb : ∀ b, (b = 90 ∨ b = 91 ∨ b = 92 ∨ b = 93 ∨ b = 94) → (wI M1 a k x).2.2.1 b = M1.2.2.1 b := fun b hb => funext fun j => hr b j (Or.inl hb)
  have hd : dR (wI M1 a k x) = dR M1 := by
    funext i
    unfold dR
    rw [hb 90 (by omega), hb 91 (by omega), hb 92 (by omega)]
  have hH : HR (wI M1 a k x) = HR M1 := by
    funext i
    unfold HR
    rw [hb 90 (by omega), hb 91 (by omega), hb 92 (by omega)]
  refine ⟨h.1.wI (Or.inr ha) x, ?_, h.2.2.1, h.2.2.2.1, fun i hi => by rw [hd]; exact h.2.2.2.2 i hi⟩
  obtain ⟨t1, t2, t3, t4, t5, t6⟩ := h.2.1
  refine ⟨(hr 89 7 (Or.inr ⟨rfl, rfl⟩)).trans t1, t2, by rw [hb 90 (by omega), hb 91 (by omega), hb 92 (by omega)]; exact t3, by rw [hb 90 (by omega), hb 91 (by omega), hb 92 (by omega)]; exact t4, fun h hh => ?_, fun i hi => ?_⟩
  · rw [hr 94 h (by omega), hH]; exact t5 h hh
  · rw [hr 93 i (by omega), hH]; exact t6 i hi
theorem AqB.wd {M M1 : Mem} {c1 p e d z : Nat} (h : AqB M c M1 c1 p e d z) (hW : Wd M) : Wd M1 := h.1.Wd hW
theorem AqB.int {M M1 : Mem} {c1 p e d z : Nat} (h : AqB M c M1 c1 p e d z) {a i : Nat} (h1 : 95 ≤ a) (h2 : a ≠ 113) (h3 : a ≠ 114) (h4 : a ≠ 115 ∨ i < d) : M1.2.2.1 a i = M.2.2.1 a i := h.1.int (fun q => by unfold SAq SR at q; omega)
theorem AqB.in113 {M M1 : Mem} {c1 p e d z : Nat} (h : AqB M c M1 c1 p e d z) {a i : Nat} (ha : a = 113 ∨ a = 114) (hi : i < p ∨ e ≤ i) : M1.2.2.1 a i = M.2.2.1 a i := h.1.int (fun q => by unfold SAq SR at q; omega)
theorem AqB.wr {M M1 : Mem} {c1 p e d z : Nat} (h : AqB M c M1 c1 p e d z) (hR : WrkR M c l) : WrkR M1 c1 l := hR.mv (h.1.int (fun q => by unfold SAq SR at q; omega)) (funext fun i => h.int (by omega) (by omega) (by omega) (by omega)) (funext fun i => h.int (by omega) (by omega) (by omega) (by omega)) h.2.2.2.2 h.2.2.1
theorem AqB.hy {M M1 : Mem} {c1 p e d z : Nat} (h : AqB M c M1 c1 p e d z) (hH : HyS M c Hl) : HyS M1 c1 Hl := ⟨hH.1, fun j hj => by
  obtain ⟨v, h1, h2, h3⟩ := hH.2 j hj
  exact ⟨v, by have := h.2.2.1; omega, (h.int (by omega) (by omega) (by omega) (by omega)).trans h2, (h.2.2.2.2 v h1).trans h3⟩⟩
def EvR (M : Mem) (c d : Nat) (G : Nat → Fm) : Prop := ∀ j, j < d → ∃ v, v < c ∧ M.2.2.1 115 j = nI v ∧ dR M v = G j
theorem AqB.ev {M M1 : Mem} {c1 p e d z d2 : Nat} {G : Nat → Fm} (h : AqB M c M1 c1 p e d z) (hE : EvR M c d2 G) (hd : d2 ≤ d) : EvR M1 c1 d2 G := fun j hj => by
  obtain ⟨v, h1, h2, h3⟩ := hE j hj
  exact ⟨v, by have := h.2.2.1; omega, (h.int (by omega) (by omega) (by omega) (by omega)).trans h2, (h.2.2.2.2 v h1).trans h3⟩
theorem EvR.up {M : Mem} {c d : Nat} {G : Nat → Fm} (h : EvR M c d G) {v : Nat} {f : Fm} (hv : v < c) (e : M.2.2.1 115 d = nI v) (hf : dR M v = f) : EvR M c (d + 1) (ups G d f) := fun j hj => by
  by_cases q : j = d
  · subst q
    rw [ups_at]
    exact ⟨v, hv, e, hf⟩
  · rw [ups_ne G f q]
    exact h j (by omega)
theorem TyR.up {M M1 : Mem} {c c1 i : Nat} {f : Fm} (h : TyR M c i f) (e : M1.2.2.1 113 i = M.2.2.1 113 i) (hd : ∀ i, i < c → dR M1 i = dR M i) (hc : c ≤ c1) : TyR M1 c1 i f := by
  obtain ⟨v, h1, h2, h3⟩ := h
  exact ⟨v, by omega, e.trans h2, (hd v h1).trans h3⟩
theorem AqB.wt {M M1 : Mem} {c1 p e d z : Nat} (h : AqB M c M1 c1 p e d z) {t : Tm} (ht : isT t) {i d2 : Nat} {G : Nat → Fm} {x : Fm} (hw : Wt (TyR M c) Hl.length (hF Hl) t i G d2 x) (hi : i + sz t ≤ p ∨ e ≤ i) : Wt (TyR M1 c1) Hl.length (hF Hl) t i G d2 x := hw.imp t ht (fun j y h1 h2 q => q.up (h.in113 (Or.inl rfl) (by omega)) h.2.2.2.2 h.2.2.1)
theorem AqB.dp {M M1 : Mem} {c1 p e d z : Nat} (h : AqB M c M1 c1 p e d z) {t : Tm} (ht : isT t) {i d2 : Nat} (hw : DpR M t i d2) (hi : i + sz t ≤ p ∨ e ≤ i) : DpR M1 t i d2 := hw.congr t ht (fun j h1 h2 => h.in113 (Or.inr rfl) (by omega))
theorem NewR.mv {M M1 : Mem} {c c0 : Nat} {CI : Fm → Prop} (h : NewR M c c0 CI) (hd : ∀ i, i < c → dR M1 i = dR M i) : NewR M1 c c0 CI := fun i h1 h2 => by
  rw [hd i h2]
  exact h i h1 h2
/-- a formula is made -/
theorem rf_make {M : Mem} (hW : Wd M) (hT : TabR M c) (n : Nat) {x y z : Int32} {f : Fm} (ho : FOk M c x y z f) {c0 : Nat} {CI : Fm → Prop} (hcap : ∀ (M : Mem) (c : Nat), TabR M c → NewR M c c0 CI → c < 16384) (hrm : c < 16384 ∨ (NewR M c c0 CI ∧ CI f)) (p e d : Nat) : ∃ i c1 M1, f_X11_formula n 89 x y z M = some (nI i, M1) ∧ i < c1 ∧ dR M1 i = f ∧ AqB M c M1 c1 p e d 1 ∧ (NewR M c c0 CI → CI f → NewR M1 c1 c0 CI) ∧ M1.2.2.1 89 30 = M.2.2.1 89 30 ∧ M1.2.2.1 89 31 = M.2.2.1 89 31 ∧ M1.2.2.1 89 43 = M.2.2.1 89 43 ∧ M1.2.2.1 113 = M.2.2.1 113 ∧ M1.2.2.1 114 = M.2.2.1 114 := by
  have hc : c < 16384 ∨ ∃ i, i < c ∧ dR M i = f := hrm.elim Or.inl (fun q => Or.inl (hcap M c hT q.1))
  obtain ⟨i, c1, M1, e1, h1, h2, h3, h4, h5, h6, h7, h8, h9⟩ := r_formula hW hT n ho hc
  refine ⟨i, c1, M1, e1, h1, h5, ⟨h7.mono (fun a j q => Or.inl q), h4, h2, h3, h6⟩, fun q1 q2 j g1 g2 => ?_, h7.int (by unfold SR; omega), h7.int (by unfold SR; omega), h7.int (by unfold SR; omega), h7.ints (fun k => by unfold SR; omega), h7.ints (fun k => by unfold SR; omega)⟩
  by_cases hj : j < c
  · rw [h6 j hj]
    exact q1 j g1 hj
  · by_cases hex : ∃ i, i < c ∧ dR M i = f
    · have := (h8 hex).2
      omega
    · have hi : ¬ i < c := fun q => hex ⟨i, q, by rw [← h6 i q]; exact h5⟩
      have : j = i := by omega
      rw [this, h5]
      exact q2
theorem ra_wr {M : Mem} (hW : Wd M) (n : Nat) (h0 : ¬ M.2.2.1 89 30 = 0) (x : Int32) : f_X11_asks (n + 1) 89 x M = some (0, M) := by
  have hO := fO_R hW
  rw [asks_eq]
  unfold T_X11_asks_0
  simp only [↓reduceIte, ↓gd_pos hO, h0]
theorem ra_go {M M1 : Mem} (hW : Wd M) (n : Nat) {p d : Nat} (h0 : M.2.2.1 89 30 = 0) (hat : M.2.2.1 89 43 = nI p) (hp : p < 400) {v : Int32} (hk : f_X11_provenBy n 89 (nI p) (nI d) (wI (wI M 89 43 (nI (p + 1))) 114 p (nI d)) = some (v, M1)) (hW1 : Wd M1) : f_X11_asks (n + 1) 89 (nI d) M = some (v, wI M1 113 p v) := by
  have hO := fO_R hW
  have hO1 := fO_R hW1
  have hA := fA_R hW (a := 114) (by omega) (s_114 hW) hp (by omega)
  have hB := fA_R hW1 (a := 113) (by omega) (s_113 hW1) hp (by omega)
  rw [← hat] at hA hB
  have z1 : (M.2.2.1 89 43).toNatClampNeg = p := by rw [hat]; exact nI_z (by omega)
  have E : r_X11_asks n 1 [.ref 89, .int (M.2.2.1 89 43), .int (nI d)] (wI (wI M 89 43 ((M.2.2.1 89 43) + 1)) 114 ((M.2.2.1 89 43).toNatClampNeg) (nI d)) = some (v, M1) := by
    rw [z1, hat, nI_1]
    exact hk
  rw [asks_eq]
  unfold T_X11_asks_0
  simp (disch := omega) only [↓reduceIte, ↓gd_pos hO, h0, ↓bnd_of (r_89_41 hW), ↓gd_pos hA, ↓bnd2_of E, ↓gd_pos hO1, ↓bnd_of (r_89_40 hW1), ↓gd_pos hB, z1]
end RS
