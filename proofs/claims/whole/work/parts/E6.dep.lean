/-! HOW DEEP the types of a told text are -/
theorem ty_dp {Q : Nat → Fm → Prop} {h : Nat} {H : Nat → Fm} : ∀ t, isT t → ∀ {B : Nat} {G : Nat → Fm} {d p : Nat} {x : Fm}, (∀ k, k < d → dpf (G k) ≤ B) → (∀ k, k < h → dpf (H k) ≤ B) → (∀ nd, nd ∈ rws t → tf nd.1 → dpf nd.2 ≤ B) → Wt Q h H t p G d x → Wt (fun i f => Q i f ∧ dpf f ≤ B + sz t) h H t p G d x := by
  apply tm_ind
  · intro k B G d p x hG hH hl ⟨q1, q2, q3⟩
    exact ⟨q1, q2, q3, by rw [q2]; have := hG k q1; omega⟩
  · intro k B G d p x hG hH hl ⟨q1, q2, q3⟩
    exact ⟨q1, q2, q3, by rw [q2]; have := hH k q1; omega⟩
  · intro o f a ho ha ih B G d p x hG hH hl ⟨q1, y, q2, q3⟩
    have hla : ∀ nd, nd ∈ rws a → tf nd.1 → dpf nd.2 ≤ B := fun nd hn => hl nd (by rw [rws_U]; exact List.mem_cons_of_mem _ hn)
    have hG' : ∀ k, k < d + amN o 0 → dpf ((if o = 2 then ups G d f else G) k) ≤ B := by
      intro k hk
      by_cases e : o = 2
      · rw [if_pos e]
        by_cases ek : k = d
        · rw [ek, ups_at]
          exact hl (o, f) (by rw [rws_U]; exact List.mem_cons_self) (by rw [e]; exact Or.inl rfl)
        · rw [ups_ne _ _ ek]
          have := amN_le o 0
          exact hG k (by omega)
      · have ea : amN o 0 = 0 := by unfold amN; rw [if_neg e, if_neg (by omega)]
        rw [if_neg e]
        exact hG k (by omega)
    have w := ih hG' hH hla q2
    have hy : dpf y ≤ B + sz a := (w.root a ha).2
    have hx : dpf x ≤ B + (sz a + 1) := by
      have hf : tf o → dpf f ≤ B := fun z => hl (o, f) (by rw [rws_U]; exact List.mem_cons_self) z
      rcases q3 with ⟨e, rfl⟩ | ⟨e, wq, rfl⟩ | ⟨e, wq, rfl⟩ | ⟨e, rfl⟩ | ⟨e, rfl⟩ | ⟨e, -, rfl⟩
      · have := hf (Or.inl e)
        show 1 + max (dpf f) (dpf y) ≤ _
        omega
      · have hy : 1 + max (dpf x) (dpf wq) ≤ B + sz a := hy
        omega
      · have hy : 1 + max (dpf wq) (dpf x) ≤ B + sz a := hy
        omega
      · have := hf (Or.inr (Or.inl e))
        show 1 + max (dpf y) (dpf f) ≤ _
        omega
      · have := hf (Or.inr (Or.inr (Or.inl e)))
        show 1 + max (dpf f) (dpf y) ≤ _
        omega
      · have := hf (Or.inr (Or.inr (Or.inr e)))
        omega
    rw [sz_U]
    exact ⟨⟨q1, hx⟩, y, w.imp a ha (fun i z _ _ g => ⟨g.1, by have := g.2; omega⟩), q3⟩
  · intro o a b ho ha hb ia ib B G d p x hG hH hl ⟨q1, y, z, q2, q3, q4⟩
    have hla : ∀ nd, nd ∈ rws a → tf nd.1 → dpf nd.2 ≤ B := fun nd hn => hl nd (by rw [rws_B]; exact List.mem_cons_of_mem _ (List.mem_append_left _ hn))
    have hlb : ∀ nd, nd ∈ rws b → tf nd.1 → dpf nd.2 ≤ B := fun nd hn => hl nd (by rw [rws_B]; exact List.mem_cons_of_mem _ (List.mem_append_right _ hn))
    have wa := ia hG hH hla q2
    have wb := ib hG hH hlb q3
    have hy : dpf y ≤ B + sz a := (wa.root a ha).2
    have hz : dpf z ≤ B + sz b := (wb.root b hb).2
    have hx : dpf x ≤ B + (sz a + sz b + 1) := by
      rcases q4 with ⟨e, rfl⟩ | ⟨e, rfl⟩
      · have hy : 1 + max (dpf z) (dpf x) ≤ B + sz a := hy
        omega
      · show 1 + max (dpf y) (dpf z) ≤ _
        omega
    rw [sz_B]
    exact ⟨⟨q1, hx⟩, y, z, wa.imp a ha (fun i z _ _ g => ⟨g.1, by have := g.2; omega⟩), wb.imp b hb (fun i z _ _ g => ⟨g.1, by have := g.2; omega⟩), q4⟩
  · intro m a b hm ha hb im ia ib B G d p x hG hH hl ⟨q1, y, z, q2, q3, q4⟩
    have hlm : ∀ nd, nd ∈ rws m → tf nd.1 → dpf nd.2 ≤ B := fun nd hn => hl nd (by rw [rws_C]; exact List.mem_cons_of_mem _ (List.mem_append_left _ hn))
    have hla : ∀ nd, nd ∈ rws a → tf nd.1 → dpf nd.2 ≤ B + sz m := fun nd hn ht => by
      have := hl nd (by rw [rws_C]; exact List.mem_cons_of_mem _ (List.mem_append_right _ (List.mem_append_left _ hn))) ht
      omega
    have hlb : ∀ nd, nd ∈ rws b → tf nd.1 → dpf nd.2 ≤ B + sz m := fun nd hn ht => by
      have := hl nd (by rw [rws_C]; exact List.mem_cons_of_mem _ (List.mem_append_right _ (List.mem_append_right _ hn))) ht
      omega
    have wm := im hG hH hlm q2
    have hyz : 1 + max (dpf y) (dpf z) ≤ B + sz m := (wm.root m hm).2
    have env : ∀ {f : Fm}, dpf f ≤ B + sz m → ∀ k, k < d + 1 → dpf (ups G d f k) ≤ B + sz m := by
      intro f hf k hk
      by_cases ek : k = d
      · rw [ek, ups_at]; exact hf
      · rw [ups_ne _ _ ek]
        have := hG k (by omega)
        omega
    have wa := ia (env (show dpf y ≤ B + sz m by omega)) (fun k hk => by have := hH k hk; omega) hla q3
    have wb := ib (env (show dpf z ≤ B + sz m by omega)) (fun k hk => by have := hH k hk; omega) hlb q4
    have hx : dpf x ≤ B + sz m + sz a := (wa.root a ha).2
    rw [sz_C]
    exact ⟨⟨q1, by omega⟩, y, z, wm.imp m hm (fun i z _ _ g => ⟨g.1, by have := g.2; omega⟩), wa.imp a ha (fun i z _ _ g => ⟨g.1, by have := g.2; omega⟩), wb.imp b hb (fun i z _ _ g => ⟨g.1, by have := g.2; omega⟩)⟩
section RDW
variable {b : Nat → Nat} {n : Nat} {H : List (Nat × Fm)}
def lb60 (t : Tm) : Prop := ∀ nd, nd ∈ rws t → tf nd.1 → wdf nd.2 ≤ 60
theorem lb60_U {o : Nat} {f a : Tm} (h1 : tf o → wdf f ≤ 60) (h2 : lb60 a) : lb60 (tU o f a) := fun nd hn ht => by
  rw [rws_U, List.mem_cons] at hn
  rcases hn with rfl | hn
  · exact h1 ht
  · exact h2 nd hn ht
theorem lb60_B {o : Nat} (ho : o = 3 ∨ o = 4) {a c : Tm} (h1 : lb60 a) (h2 : lb60 c) : lb60 (tB o a c) := fun nd hn ht => by
  rw [rws_B, List.mem_cons, List.mem_append] at hn
  rcases hn with rfl | hn | hn
  · replace ht : o = 2 ∨ o = 7 ∨ o = 8 ∨ o = 10 := ht
    omega
  · exact h1 nd hn ht
  · exact h2 nd hn ht
theorem lb60_C {m a c : Tm} (h0 : lb60 m) (h1 : lb60 a) (h2 : lb60 c) : lb60 (tC m a c) := fun nd hn ht => by
  rw [rws_C, List.mem_cons, List.mem_append, List.mem_append] at hn
  rcases hn with rfl | hn | hn | hn
  · replace ht : (9 : Nat) = 2 ∨ (9 : Nat) = 7 ∨ (9 : Nat) = 8 ∨ (9 : Nat) = 10 := ht
    omega
  · exact h0 nd hn ht
  · exact h1 nd hn ht
  · exact h2 nd hn ht
theorem rdT_w60 (hH : H.length ≤ 6) : ∀ z {p m : Nat} {sc : List Nat} {r : Tm × List Nat × Nat}, p ≤ n → rdT b n H z p sc m = .inr r → lb60 r.1 := by
  intro z
  induction z with
  | zero => intro p m sc r hp h; cases h
  | succ z ih =>
    intro p m sc r hp h
    have hle := tq_le b n p hp
    by_cases hN : isN b n p
    · rw [rdT_N hN] at h
      cases hm : mng sc H (nmAt b n p) with
      | none => rw [hm, rdN_n] at h; cases h
      | some t =>
        rw [hm] at h
        by_cases h120 : 120 ≤ m
        · rw [rdN_s, if_pos h120] at h
          cases h
        · rw [rdN_s, if_neg h120] at h
          cases h
          have hone : ∀ {f : Tm}, rws t = [(1, f)] → lb60 t := fun e nd hn ht => by
            rw [e, List.mem_singleton] at hn
            subst hn
            replace ht : (1 : Nat) = 2 ∨ (1 : Nat) = 7 ∨ (1 : Nat) = 8 ∨ (1 : Nat) = 10 := ht
            omega
          unfold mng at hm
          cases hq : lstI sc (nmAt b n p) sc.length with
          | some j => rw [hq] at hm; cases hm; exact hone rfl
          | none =>
            rw [hq] at hm
            cases hq2 : fstI H (nmAt b n p) H.length 0 with
            | some j => rw [hq2] at hm; cases hm; exact hone rfl
            | none => rw [hq2] at hm; cases hm
    · rw [rdT_O hN] at h
      split at h
      · rename_i hw
        split at h
        · cases h
        · rename_i h120
          have rb : ∀ {q : Nat} {u : Nat × Nat}, q ≤ n → rdB b n q sc = .inr u → u.2 ≤ n := by
            intro q u hq e
            rw [(rdB_in e).2.2]
            exact (tq_le b n q hq).2.2.2
          unfold rdK at h
          by_cases h2 : tw b n p - 11 = 2
          · rw [if_pos h2] at h
            obtain ⟨u, e1, h⟩ := sbg_in h
            obtain ⟨w, e2, h⟩ := sbg_in h
            obtain ⟨r1, e3, h⟩ := sbg_in h
            cases h
            have hu := rb hle.2.2.2 e1
            exact lb60_U (fun _ => hdF_w60 hu e2) (ih (scan_chk (l := w.1) (q := w.2) hu e2).2 e3)
          · rw [if_neg h2] at h
            by_cases h9 : tw b n p - 11 = 9
            · rw [if_pos h9] at h
              obtain ⟨r1, e1, h⟩ := sbg_in h
              obtain ⟨u, e2, h⟩ := sbg_in h
              obtain ⟨r2, e3, h⟩ := sbg_in h
              obtain ⟨v, e4, h⟩ := sbg_in h
              obtain ⟨r3, e5, h⟩ := sbg_in h
              cases h
              have k1 := (rdT_ok hH z hle.2.2.2 e1).2.2.2.2.2.2
              have hu := rb k1 e2
              have k2 := (rdT_ok hH z hu e3).2.2.2.2.2.2
              have hv := rb k2 e4
              exact lb60_C (ih hle.2.2.2 e1) (ih hu e3) (ih hv e5)
            · rw [if_neg h9] at h
              by_cases h34 : tw b n p - 11 = 3 ∨ tw b n p - 11 = 4
              · rw [if_pos h34] at h
                obtain ⟨r1, e1, h⟩ := sbg_in h
                obtain ⟨r2, e2, h⟩ := sbg_in h
                cases h
                have k1 := (rdT_ok hH z hle.2.2.2 e1).2.2.2.2.2.2
                exact lb60_B h34 (ih hle.2.2.2 e1) (ih k1 e2)
              · rw [if_neg h34] at h
                by_cases h56 : tw b n p - 11 = 5 ∨ tw b n p - 11 = 6
                · rw [if_pos h56] at h
                  obtain ⟨r1, e1, h⟩ := sbg_in h
                  cases h
                  exact lb60_U (fun z => by unfold tf at z; omega) (ih hle.2.2.2 e1)
                · rw [if_neg h56] at h
                  obtain ⟨w, e1, h⟩ := sbg_in h
                  obtain ⟨r1, e2, h⟩ := sbg_in h
                  cases h
                  exact lb60_U (fun _ => hdF_w60 hle.2.2.2 e1) (ih (scan_chk (l := w.1) (q := w.2) hle.2.2.2 e1).2 e2)
      · cases h
/-- a told proof's types are not too deep -/
theorem pfX_dp (hH : H.length ≤ 6) (hHw : ∀ x, x ∈ H → wdf x.2 ≤ 60) {r : Tm × Fm} (h : pfX b n H = .inr r) {P : Fm → Prop} (hw : Wc P H.length (hF H) r.1 0 gN 0 r.2) : Wc (fun f => P f ∧ dpf f ≤ 200) H.length (hF H) r.1 0 gN 0 r.2 := by
  obtain ⟨o1, -, -, o4, -⟩ := pfX_ok hH h
  obtain ⟨s, e, h'⟩ := sbg_in h
  obtain ⟨s2, e2, e3⟩ := sbg_in e
  have hs : s.1 = s2.1 := by
    split at e3
    · cases e3; rfl
    · cases e3
  have hr : r.1 = s.1 := by
    cases hy : ty (hF H) s.1 0 gN 0 with
    | inl e => rw [hy] at h'; cases h'
    | inr x => rw [hy] at h'; cases h'; rfl
  have hl : lb60 r.1 := by
    rw [hr, hs]
    exact rdT_w60 hH 121 (Nat.zero_le _) e2
  have := ty_dp (B := 60) r.1 o1 (fun k hk => by omega) (fun k hk => by
    have hF2 : hF H k = H[k].2 := by
      unfold hF
      rw [List.getD_eq_getElem?_getD, List.getElem?_eq_getElem hk]
      rfl
    rw [hF2]
    exact Nat.le_trans (dpf_wdf _) (hHw _ (List.getElem_mem hk))) (fun nd hn ht => Nat.le_trans (dpf_wdf _) (hl nd hn ht)) hw
  exact this.imp r.1 o1 (fun i y _ _ g => ⟨g.1, by have := g.2; omega⟩)
end RDW
