/-! ASK in the class: along the tree -/
def hF (Hl : List (Nat × Fm)) (k : Nat) : Fm := (Hl.getD k (0, .arg 0)).2
theorem hF_at {Hl : List (Nat × Fm)} {j : Nat} (hj : j < Hl.length) : hF Hl j = Hl[j].2 := by
  unfold hF
  rw [List.getD_eq_getElem?_getD, List.getElem?_eq_getElem hj]
  rfl
def Inn (M : Mem) (c : Nat) (f : Fm) : Prop := ∃ i, i < c ∧ dC M i = f
def TyQ (M : Mem) (c i : Nat) (f : Fm) : Prop := ∃ v, v < c ∧ M.2.2.1 48 i = nI v ∧ dC M v = f
/-- hypotheses that are named are there -/
def shp (h : Nat) : Tm → Prop
  | .arg k => k < h
  | .elem (.rem (.index _) _) a => shp h a
  | .div (.rem (.index _) a) b => shp h a ∧ shp h b
  | .sub (.rem m a) b => shp h m ∧ shp h a ∧ shp h b
  | _ => True
def SAk (p e a j : Nat) : Prop := SF a j ∨ (a = 48 ∧ p ≤ j ∧ j < e)
theorem SAk.rng {p e a j : Nat} (h : SAk p e a j) : a ≤ 9 ∨ a = 48 := by
  unfold SAk SF at h
  omega
section AKM
variable {tr c : Nat} {l : List (Nat × Tm)} {Hl : List (Nat × Fm)}
theorem TyQ.up {M M1 : Mem} {c c1 i : Nat} {f : Fm} (h : TyQ M c i f) (e : M1.2.2.1 48 i = M.2.2.1 48 i) (hd : ∀ i, i < c → dC M1 i = dC M i) (hc : c ≤ c1) : TyQ M1 c1 i f := by
  obtain ⟨v, h1, h2, h3⟩ := h
  exact ⟨v, by omega, e.trans h2, (hd v h1).trans h3⟩
def AkB (M : Mem) (c : Nat) (M1 : Mem) (c1 p e z : Nat) : Prop := Fr (SAk p e) M M1 ∧ TabC M1 c1 ∧ c ≤ c1 ∧ c1 ≤ c + z ∧ ∀ i, i < c → dC M1 i = dC M i
theorem AkB.refl {M : Mem} {c p e : Nat} (h : TabC M c) : AkB M c M c p e 0 := ⟨Fr.refl, h, Nat.le_refl _, Nat.le_refl _, fun _ _ => rfl⟩
theorem AkB.trans {M M1 M2 : Mem} {c c1 c2 p e p1 e1 p2 e2 z z1 z2 : Nat} (h : AkB M c M1 c1 p1 e1 z1) (k : AkB M1 c1 M2 c2 p2 e2 z2) (h1 : p ≤ p1) (h2 : e1 ≤ e) (h3 : p ≤ p2) (h4 : e2 ≤ e) (hz : z1 + z2 ≤ z) : AkB M c M2 c2 p e z := by
  refine ⟨(h.1.mono (fun a j q => ?_)).trans (k.1.mono (fun a j q => ?_)), k.2.1, by have := h.2.2.1; have := k.2.2.1; omega, by have := h.2.2.2.1; have := k.2.2.2.1; omega, fun i hi => (k.2.2.2.2 i (by have := h.2.2.1; omega)).trans (h.2.2.2.2 i hi)⟩
  · unfold SAk at q ⊢
    rcases q with q | q
    · exact Or.inl q
    · exact Or.inr ⟨q.1, by omega, by omega⟩
  · unfold SAk at q ⊢
    rcases q with q | q
    · exact Or.inl q
    · exact Or.inr ⟨q.1, by omega, by omega⟩
theorem AkB.lt {M M1 : Mem} {c1 p e z : Nat} (h : AkB M c M1 c1 p e z) (hL : LtC M tr c l) : LtC M1 tr c1 l := hL.up h.1 (fun a k q => by have := q.rng; omega) h.2.2.2.2 h.2.2.1
theorem AkB.hy {M M1 : Mem} {c1 p e z : Nat} (h : AkB M c M1 c1 p e z) (hH : HyC M 10 c Hl) : HyC M1 10 c1 Hl := hH.up h.1 (fun a k q => by have := q.rng; omega) h.2.2.2.2 h.2.2.1
theorem AkB.int {M M1 : Mem} {c1 p e z : Nat} (h : AkB M c M1 c1 p e z) {a i : Nat} (h1 : 10 ≤ a) (h2 : a ≠ 48) : M1.2.2.1 a i = M.2.2.1 a i := h.1.int (fun q => by have := q.rng; omega)
theorem AkB.ty {M M1 : Mem} {c1 p e z : Nat} (h : AkB M c M1 c1 p e z) {i : Nat} (h1 : i < p ∨ e ≤ i) : M1.2.2.1 48 i = M.2.2.1 48 i := h.1.int (fun q => by unfold SAk SF at q; omega)
theorem AkB.wk {M M1 : Mem} {c1 p e z : Nat} (h : AkB M c M1 c1 p e z) {W : List Int32} (hw : wkC M W) : wkC M1 W := hw.mv h.1 (fun q => by have := q.rng; omega) (fun k q => by have := q.rng; omega)
theorem AkB.tk {M M1 : Mem} {c1 p e z : Nat} (h : AkB M c M1 c1 p e z) {lim lim1 q0 : Nat} {f : Fm} (hk : TkO M c l lim q0 f) (hl : lim ≤ p) (hl1 : lim ≤ lim1) (hl2 : lim1 ≤ 200) : TkO M1 c1 l lim1 q0 f := hk.up h.1 (fun k q => by have := q.rng; omega) (fun k q => by have := q.rng; omega) (fun k hk q => by unfold SAk SF at q; omega) h.2.2.2.2 h.2.2.1 hl1 hl2
theorem AkB.at2 {M M1 : Mem} {c1 p e z : Nat} (h : AkB M c M1 c1 p e z) {i d r n : Nat} {pa : Int32} (ha : at2 M i d pa r n) : at2 M1 i d pa r n := ha.mv h.1 (fun q => by have := q.rng; omega) (fun q => by have := q.rng; omega) (fun q => by have := q.rng; omega) (fun q => by have := q.rng; omega)
theorem AkB.ly {M M1 : Mem} {c1 p e z : Nat} (h : AkB M c M1 c1 p e z) {t : Tm} (ht : isT t) {i d r n : Nat} {pa : Int32} {A : Nat → Nat} (hy : Ly M t i d pa r n A) : Ly M1 t i d pa r n A := hy.congr t ht (fun a j h1 h2 _ _ => h.int (by omega) (by omega))
theorem AkB.ed {M M1 : Mem} {c1 p e z : Nat} (h : AkB M c M1 c1 p e z) {t : Tm} (ht : isT t) {i : Nat} (hy : Ed M t i) : Ed M1 t i := hy.congr t ht (fun j _ _ => h.int (by omega) (by omega))
theorem AkB.wt {M M1 : Mem} {c1 p e z : Nat} (h : AkB M c M1 c1 p e z) {t : Tm} (ht : isT t) {i d : Nat} {G : Nat → Fm} {x : Fm} (hw : Wt (TyQ M c) Hl.length (hF Hl) t i G d x) (hi : i + sz t ≤ p ∨ e ≤ i) : Wt (TyQ M1 c1) Hl.length (hF Hl) t i G d x := hw.imp t ht (fun j y h1 h2 q => q.up (h.ty (by omega)) h.2.2.2.2 h.2.2.1)
/-- only types are written -/
def Fr8 (p e : Nat) (M M1 : Mem) : Prop := Fr (fun a j => a = 48 ∧ p ≤ j ∧ j < e) M M1
theorem Fr8.dC {p e : Nat} {M M1 : Mem} (h : Fr8 p e M M1) : dC M1 = dC M := dC_fq h.q (fun _ q => by omega) (fun _ q => by omega) (fun _ q => by omega)
theorem Fr8.trans {p e p1 e1 p2 e2 : Nat} {M M1 M2 : Mem} (h : Fr8 p1 e1 M M1) (k : Fr8 p2 e2 M1 M2) (h1 : p ≤ p1) (h2 : e1 ≤ e) (h3 : p ≤ p2) (h4 : e2 ≤ e) : Fr8 p e M M2 := Fr.trans (h.mono (fun a j q => ⟨q.1, by omega, by omega⟩)) (k.mono (fun a j q => ⟨q.1, by omega, by omega⟩))
theorem Inn.mv {M M1 : Mem} (e : dC M1 = dC M) {f : Fm} (h : Inn M c f) : Inn M1 c f := by
  obtain ⟨i, h1, h2⟩ := h
  exact ⟨i, h1, by rw [e]; exact h2⟩
set_option maxHeartbeats 1000000 in
theorem ak_fin {M : Mem} (hL : LtC M tr c l) {W : List Int32} (hw : wkC M W) (k : Nat) {K p d r n0 : Nat} {pa : Int32} {cz : Prop} {x : Fm} (hK : W[K]? = some (nI p)) (hp : p < l.length) (hu : f_X3_unfitWithin (k + 2) 40 (nI p) M = some (-1, M)) (hP : PvE M c (f_X3_provenBy (k + 2) 40 (nI p) M) x) (ha : at2 M p d pa r n0) (hcz : CzC l pa r cz) : ∃ c1 M1, AkB M c M1 c1 p (p + 1) 1 ∧ TyQ M1 c1 p x ∧ (Inn M c x → c1 = c ∧ Fr8 p (p + 1) M M1) ∧ (cz → kdf x ≠ 11 → lp (st_X3_ask (k + 3)) (2, [.ref 40, .int (nI K)], M) = some (nI p, M1)) ∧ ((cz → kdf x = 11) → lp (st_X3_ask (k + 3)) (2, [.ref 40, .int (nI K)], M) = lp (st_X3_ask (k + 3)) (2, [.ref 40, .int (nI (K + 1))], M1)) := by
  obtain ⟨v, c1, M1, e, h1, h2, h3, h4, h5, h6, h7, h8⟩ := hP
  have L1 : LtC M1 tr c1 l := hL.up h7 (fun a k q => by unfold SF at q; omega) h6 h2
  have a1 : at2 M1 p d pa r n0 := ha.mv h7 (by unfold SF; omega) (by unfold SF; omega) (by unfold SF; omega) (by unfold SF; omega)
  obtain ⟨g1, g2⟩ := ak_go hL hw k hK hp hu e L1 h4 h1 a1 hcz
  rw [h5] at g1 g2
  have d2 : dC (wI M1 48 p (nI v)) = dC M1 := rfl
  refine ⟨c1, wI M1 48 p (nI v), ⟨(h7.mono (fun a j q => Or.inl q)).wI (Or.inr ⟨rfl, Nat.le_refl _, by omega⟩) _, h4, h2, h3, fun i hi => ?_⟩, ⟨v, h1, by simp [up2_if], ?_⟩, fun q => ?_, g1, g2⟩
  · rw [d2]; exact h6 i hi
  · rw [d2]; exact h5
  · obtain ⟨q1, q2⟩ := h8 q
    rw [q1]
    exact ⟨q2, Fr.refl.wI ⟨rfl, Nat.le_refl _, by omega⟩ _⟩
theorem ak_Ud {M : Mem} (hL : LtC M tr c l) (hTb : TabC M c) (k : Nat) {p v : Nat} (hp : p + 1 < l.length) (ho : uOk (opl l p) (lbl l p)) (hv : v < c) (e : M.2.2.1 48 (p + 1) = nI v) : (∃ x, rU (opl l p) (lbl l p) (dC M v) x ∧ f_X3_unfitWithin (k + 1) 40 (nI p) M = some (-1, M)) ∨ ((∀ x, ¬ rU (opl l p) (lbl l p) (dC M v) x) ∧ f_X3_unfitWithin (k + 1) 40 (nI p) M = some (nI (p + 1), M)) := by
  have hor := ho.rng
  have h5 := hTb.2.1
  obtain ⟨k1, k2, k3⟩ := hTb.kd hv
  by_cases h2 : opl l p = 2
  · exact Or.inl ⟨_, Or.inl ⟨h2, rfl⟩, uf_free hL k (by omega) (by omega)⟩
  by_cases h7 : opl l p = 7
  · exact Or.inl ⟨_, Or.inr (Or.inr (Or.inr (Or.inl ⟨h7, rfl⟩))), uf_free hL k (by omega) (by omega)⟩
  by_cases h8 : opl l p = 8
  · exact Or.inl ⟨_, Or.inr (Or.inr (Or.inr (Or.inr (Or.inl ⟨h8, rfl⟩)))), uf_free hL k (by omega) (by omega)⟩
  by_cases h10 : opl l p = 10
  · have hu := uf_abort hL k hp h10 (show v < 10000 by omega) e
    by_cases q : v = 8
    · rw [if_pos q] at hu
      refine Or.inl ⟨lbl l p, Or.inr (Or.inr (Or.inr (Or.inr (Or.inr ⟨h10, ?_, rfl⟩)))), hu⟩
      rw [q]
      exact hTb.leaf (by omega)
    · rw [if_neg q] at hu
      refine Or.inr ⟨fun x hx => ?_, hu⟩
      rcases hx with hx | hx | hx | hx | hx | hx
      · omega
      · omega
      · omega
      · omega
      · omega
      · exact q (k3 8 hx.2.1).2
  have h56 : opl l p = 5 ∨ opl l p = 6 := by omega
  have hu := uf_and hL hTb k hp h56 hv e
  by_cases q : kdf (dC M v) = 10
  · rw [if_pos q] at hu
    obtain ⟨a, b, eab⟩ := kdf_of (j := 10) (by omega) (by omega) q (fun k e => (k3 k e).1)
    rcases h56 with h | h
    · exact Or.inl ⟨a, Or.inr (Or.inl ⟨h, b, eab⟩), hu⟩
    · exact Or.inl ⟨b, Or.inr (Or.inr (Or.inl ⟨h, a, eab⟩)), hu⟩
  · rw [if_neg q] at hu
    refine Or.inr ⟨fun x hx => ?_, hu⟩
    rcases hx with hx | ⟨-, w, hx⟩ | ⟨-, w, hx⟩ | hx | hx | hx
    · omega
    · rw [hx] at q; exact q rfl
    · rw [hx] at q; exact q rfl
    · omega
    · omega
    · omega
theorem ak_Bd {M : Mem} (hL : LtC M tr c l) (hTb : TabC M c) (k : Nat) {p q v w : Nat} (hp : p + 1 < l.length) (hq : q < 200) (ho : opl l p = 3 ∨ opl l p = 4) (hv : v < c) (hw : w < c) (eq : M.2.2.1 41 (p + 1) = nI q) (e : M.2.2.1 48 (p + 1) = nI v) (e2 : M.2.2.1 48 q = nI w) : (∃ x, rB (opl l p) (dC M v) (dC M w) x ∧ f_X3_unfitWithin (k + 1) 40 (nI p) M = some (-1, M)) ∨ ((∀ x, ¬ rB (opl l p) (dC M v) (dC M w) x) ∧ f_X3_unfitWithin (k + 1) 40 (nI p) M = some (nI (if opl l p = 3 ∧ kdf (dC M v) = 9 then q else p + 1), M)) := by
  rcases ho with ho | ho
  · obtain ⟨u1, u2⟩ := uf_app hL hTb k hp hq ho hv hw eq e e2
    by_cases h : ∃ y, dC M v = .add (dC M w) y
    · obtain ⟨y, hy⟩ := h
      exact Or.inl ⟨y, Or.inl ⟨ho, hy⟩, u1 y hy⟩
    · refine Or.inr ⟨fun x hx => ?_, ?_⟩
      · rcases hx with hx | hx
        · exact h ⟨x, hx.2⟩
        · omega
      · rw [u2 (fun y hy => h ⟨y, hy⟩)]
        by_cases h9 : kdf (dC M v) = 9
        · rw [if_pos h9, if_pos ⟨ho, h9⟩]
        · rw [if_neg h9, if_neg (fun z => h9 z.2)]
  · exact Or.inl ⟨_, Or.inr ⟨ho, rfl⟩, uf_free hL k (by omega) (by omega)⟩
theorem ak_am {M : Mem} (hW : Wd M) {W W1 R : List Int32} (hw : wkC M W) (k : Nat) {am p K : Nat} (hp : p < 200) (e : W = W1 ++ (amL am p ++ R)) (hK : W1.length = K) : lp (st_X3_ask (k + 3)) (2, [.ref 40, .int (nI K)], M) = lp (st_X3_ask (k + 3)) (2, [.ref 40, .int (nI (K + (amL am p).length))], M) := by
  unfold amL at e ⊢
  by_cases h : am = 1
  · rw [if_pos h] at e ⊢
    refine ak_skip hW hw (k + 1) (x := -1 - nI p) ?_ (hy_neg (by omega))
    rw [e, List.getElem?_append_right (by omega), hK, Nat.sub_self]
    rfl
  · rw [if_neg h]
    rfl
end AKM
