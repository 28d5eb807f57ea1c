/-! HOW MUCH TEXT a term takes -/
def txw : List Nat → Nat
  | [] => 0
  | w :: l => wlen w + 1 + txw l
def sumM : List Fm → Nat
  | [] => 0
  | f :: l => 4 * (blen f + 5) + sumM l
theorem wl_leaf : ∀ c, c < 9 → 4 * (wlN c + 5) ≤ 7 * (wlen c + 1) + 11 := by decide +kernel
theorem wl_at : wlen 12 = 3 ∧ wlen 9 = 3 ∧ wlen 10 = 3 ∧ wlen 11 = 2 := by decide +kernel
theorem wl_op : wlen 13 = 3 ∧ wlen 14 = 3 ∧ wlen 15 = 4 ∧ wlen 16 = 3 ∧ wlen 17 = 3 ∧ wlen 18 = 3 ∧ wlen 19 = 3 ∧ wlen 20 = 4 ∧ wlen 21 = 5 := by decide +kernel
theorem ev_tx : ∀ {l : List Nat} {o : Nat}, chk l o → sumM (ev l) ≤ 7 * txw l + 11 * (ev l).length := by
  intro l
  induction l with
  | nil => intro o h; exact Nat.le_refl _
  | cons c l ih =>
    intro o h
    cases o with
    | zero => exact h.elim
    | succ o =>
      obtain ⟨hc, hl⟩ := h
      have i0 := ih hl
      have i1 := (ev_app hl).1
      obtain ⟨w12, w9, w10, w11⟩ := wl_at
      by_cases h12 : c = 12
      · subst h12
        rw [show opn o 12 = o + 1 from rfl] at i1
        obtain ⟨x, s, e⟩ : ∃ x s, ev l = x :: s := by
          cases hh : ev l with
          | nil => rw [hh] at i1; simp at i1
          | cons x s => exact ⟨x, s, rfl⟩
        rw [ev_12, e]
        rw [e] at i0
        have e8 : blen (.add x (.arg 8)) = 5 + blen x + 2 := rfl
        simp only [sumM, List.headD_cons, List.tail_cons, List.length_cons, txw, e8] at i0 ⊢
        omega
      · by_cases h9 : 9 ≤ c
        · have ho : opn o c = o + 2 := by unfold opn; rw [if_neg h12, if_pos h9]
          rw [ho] at i1
          obtain ⟨x, y, s, e⟩ : ∃ x y s, ev l = x :: y :: s := by
            cases hh : ev l with
            | nil => rw [hh] at i1; simp at i1
            | cons x s =>
              cases s with
              | nil => rw [hh] at i1; simp at i1
              | cons y s => exact ⟨x, y, s, rfl⟩
          rw [ev_bin l h9 h12, e]
          rw [e] at i0
          have hc3 : c = 9 ∨ c = 10 ∨ c = 11 := by
            have : c ≤ 12 := hc
            omega
          rcases hc3 with rfl | rfl | rfl
          · have eb : blen (mkF 9 x y) = 5 + blen x + blen y := rfl
            simp only [sumM, List.headD_cons, List.tail_cons, List.length_cons, txw, eb] at i0 ⊢
            omega
          · have eb : blen (mkF 10 x y) = 5 + blen x + blen y := rfl
            simp only [sumM, List.headD_cons, List.tail_cons, List.length_cons, txw, eb] at i0 ⊢
            omega
          · have eb : blen (mkF 11 x y) = 4 + blen x + blen y := rfl
            simp only [sumM, List.headD_cons, List.tail_cons, List.length_cons, txw, eb] at i0 ⊢
            omega
        · rw [ev_leaf l (by omega)]
          have e8 : blen (.arg c) = wlN c := rfl
          have := wl_leaf c (by omega)
          simp only [sumM, List.length_cons, txw, e8]
          omega
section WGT
variable {b : Nat → Nat} {n : Nat} {H : List (Nat × Fm)}
theorem scan_tx : ∀ {z p o : Nat} {l : List Nat} {q : Nat}, p ≤ n → (p < n → ¬ isLt (b p)) → scan b n z p o = .inr (l, q) → p + txw l ≤ q := by
  intro z
  induction z with
  | zero =>
    intro p o l q hp he h
    cases o with
    | zero => rw [scan_z] at h; cases h; exact Nat.le_refl _
    | succ o => cases h
  | succ z ih =>
    intro p o l q hp he h
    cases o with
    | zero => rw [scan_z] at h; cases h; exact Nat.le_refl _
    | succ o =>
      rw [scan_s] at h
      split at h
      · rename_i hw
        split at h
        · cases h
        · rename_i r e
          cases h
          have hle := tq_le b n p hp
          rcases tw_is b n p hp with ⟨t1, t2, t3, t4, t5, t6⟩ | ⟨t1, -⟩
          · have ls := lts_is b (n - tq b n p) (tq b n p)
            have hL := ls.2.2.2 (tq b n p) (Nat.le_refl _) t5
            have hne : p ≠ tq b n p := by
              intro q
              have h1 := he (by omega)
              rw [q] at h1
              exact h1 hL
            have hend : te b n p < n → ¬ isLt (b (te b n p)) := fun x => ls.2.2.1 (by show te b n p < _; omega)
            have := ih (l := r.1) (q := r.2) hle.2.2.2 hend e
            show p + (wlen (tw b n p) + 1 + txw r.1) ≤ r.2
            omega
          · omega
      · cases h
/-- a told formula: its text, its end -/
theorem hdF_tx {p : Nat} {w : List Nat × Nat} (hp : p ≤ n) (he : p < n → ¬ isLt (b p)) (h : scan b n 30 p 1 = .inr w) : p + tx (hdF w.1) ≤ w.2 ∧ w.2 ≤ n ∧ (w.2 < n → ¬ isLt (b w.2)) := by
  obtain ⟨hc, hq⟩ := scan_chk (l := w.1) (q := w.2) hp h
  have hs := scan_tx (l := w.1) (q := w.2) hp he h
  have hx := ev_tx hc
  have hl := (ev_app hc).1
  refine ⟨?_, hq, (scan_end (l := w.1) (q := w.2) hp he h).1⟩
  unfold hdF
  cases hh : ev w.1 with
  | nil => rw [hh] at hl; simp at hl
  | cons f t =>
    rw [hh] at hx hl
    simp only [List.length_cons] at hl hx
    have ht : t = [] := List.length_eq_zero_iff.mp (by omega)
    subst ht
    have hx : 4 * (blen f + 5) + 0 ≤ 7 * txw w.1 + 11 * (0 + 1) := hx
    have h2 : 2 ≤ txw w.1 := by
      cases hw : w.1 with
      | nil => rw [hw] at hc; exact absurd (show (1 : Nat) = 0 from hc) (by decide)
      | cons c l =>
        rw [hw] at hc
        have hc1 : c ≤ 12 := hc.1
        have := (wch_is c (by omega)).1.1
        show 2 ≤ wlen c + 1 + txw l
        omega
    have := tx_hi (f := f) (B := txw w.1) (by omega) h2
    show p + tx f ≤ w.2
    omega
theorem wd_len {p : Nat} (hp : p ≤ n) (h : tq b n p < te b n p) (h0 : 0 < p → p < n → ¬ isLt (b p)) : p + (te b n p - tq b n p) + 1 ≤ te b n p + (1 - p) := by
  have hle := tq_le b n p hp
  have ls := lts_is b (n - tq b n p) (tq b n p)
  by_cases hz : p = 0
  · subst hz; omega
  · have : tq b n p ≠ p := fun q => h0 (by omega) (by omega) (by
      have := ls.2.2.2 (tq b n p) (Nat.le_refl _) h
      rwa [q] at this)
    omega
def WgF (b : Nat → Nat) (n p : Nat) (r : Tm × List Nat × Nat) : Prop := wg r.1 + p ≤ 116 * sz r.1 + r.2.2 + (1 - p) ∧ 0 < r.2.2 ∧ r.2.2 ≤ n ∧ (r.2.2 < n → ¬ isLt (b r.2.2))
theorem rdT_wg (hH : H.length ≤ 6) : ∀ z {p m : Nat} {sc : List Nat} {r : Tm × List Nat × Nat}, p ≤ n → (0 < p → p < n → ¬ isLt (b p)) → rdT b n H z p sc m = .inr r → WgF b n p r := by
  intro z
  induction z with
  | zero => intro p m sc r hp _ h; cases h
  | succ z ih =>
    intro p m sc r hp h0 h
    have hle := tq_le b n p hp
    obtain ⟨d, hd⟩ : ∃ d, d = 1 - p := ⟨_, rfl⟩
    by_cases hN : isN b n p
    · have hw := wd_len hp hN.1 h0
      have hte := te_lt (b := b) (n := n) p hp
      have h1 := hN.1
      rw [rdT_N hN] at h
      cases hm : mng sc H (nmAt b n p) with
      | none => rw [hm, rdN_n] at h; cases h
      | some t =>
        rw [hm] at h
        by_cases h120 : 120 ≤ m
        · rw [rdN_s, if_pos h120] at h
          cases h
        · rw [rdN_s, if_neg h120] at h
          cases h
          have ht : wg t = 118 ∧ sz t = 1 := by
            unfold mng at hm
            cases hq : lstI sc (nmAt b n p) sc.length with
            | some j => rw [hq] at hm; cases hm; exact ⟨rfl, rfl⟩
            | none =>
              rw [hq] at hm
              cases hq2 : fstI H (nmAt b n p) H.length 0 with
              | some j => rw [hq2] at hm; cases hm; exact ⟨rfl, rfl⟩
              | none => rw [hq2] at hm; cases hm
          refine ⟨?_, by show 0 < te b n p; omega, hle.2.2.2, hte⟩
          show wg t + p ≤ 116 * sz t + te b n p + (1 - p)
          rw [ht.1, ht.2]
          rw [← hd] at hw ⊢
          omega
    · rw [rdT_O hN] at h
      split at h
      · rename_i hw
        split at h
        · cases h
        · rename_i h120
          have hte := te_lt (b := b) (n := n) p hp
          rcases tw_is b n p hp with ⟨t1, t2, t3, t4, t5, t6⟩ | ⟨t1, -⟩
          · have hwd := wd_len hp t5 h0
            have hp1 : 0 < te b n p := by omega
            rw [show te b n p - tq b n p = wlen (tw b n p) by omega, ← hd] at hwd
            have rb : ∀ {q : Nat} {u : Nat × Nat}, q ≤ n → 0 < q → (q < n → ¬ isLt (b q)) → rdB b n q sc = .inr u → q + 2 ≤ u.2 ∧ u.2 ≤ n ∧ (u.2 < n → ¬ isLt (b u.2)) := by
              intro q u hq hq0 hqn e
              obtain ⟨e1, e2, e3⟩ := rdB_in e
              rw [e3]
              have := wd_len hq e1.1 (fun _ => hqn)
              have hle2 := tq_le b n q hq
              have h1 := e1.1
              exact ⟨by show q + 2 ≤ te b n q; rw [show 1 - q = 0 by omega] at this; omega, hle2.2.2.2, te_lt q hq⟩
            have rt : ∀ {q m : Nat} {sc : List Nat} {r : Tm × List Nat × Nat}, q ≤ n → 0 < q → (q < n → ¬ isLt (b q)) → rdT b n H z q sc m = .inr r → wg r.1 + q ≤ 116 * sz r.1 + r.2.2 ∧ 0 < r.2.2 ∧ r.2.2 ≤ n ∧ (r.2.2 < n → ¬ isLt (b r.2.2)) := by
              intro q m sc r hq hq0 hqn e
              have := ih hq (fun _ => hqn) e
              unfold WgF at this
              rw [show 1 - q = 0 by omega] at this
              exact this
            obtain ⟨w13, w14, w15, w16, w17, w18, w19, w20, w21⟩ := wl_op
            unfold WgF
            rw [← hd]
            clear hd h0
            unfold rdK at h
            by_cases h2 : tw b n p - 11 = 2
            · rw [if_pos h2] at h
              have e13 : tw b n p = 13 := by omega
              rw [e13, w13] at hwd
              obtain ⟨u, e1, h⟩ := sbg_in h
              obtain ⟨w, e2, h⟩ := sbg_in h
              obtain ⟨r1, e3, h⟩ := sbg_in h
              cases h
              obtain ⟨u1, u2, u3⟩ := rb hle.2.2.2 hp1 hte e1
              obtain ⟨v1, v2, v3⟩ := hdF_tx u2 u3 e2
              obtain ⟨x1, x2, x3, x4⟩ := rt v2 (by omega) v3 e3
              refine ⟨?_, x2, x3, x4⟩
              show wg (tU 2 (hdF w.1) r1.1) + p ≤ 116 * sz (tU 2 (hdF w.1) r1.1) + r1.2.2 + d
              rw [wg_U2, sz_U]
              omega
            · rw [if_neg h2] at h
              by_cases h9 : tw b n p - 11 = 9
              · rw [if_pos h9] at h
                have e20 : tw b n p = 20 := by omega
                rw [e20, w20] at hwd
                obtain ⟨r1, e1, h⟩ := sbg_in h
                obtain ⟨u, e2, h⟩ := sbg_in h
                obtain ⟨r2, e3, h⟩ := sbg_in h
                obtain ⟨v, e4, h⟩ := sbg_in h
                obtain ⟨r3, e5, h⟩ := sbg_in h
                cases h
                obtain ⟨a1, a2, a3, a4⟩ := rt hle.2.2.2 hp1 hte e1
                obtain ⟨u1, u2, u3⟩ := rb a3 a2 a4 e2
                obtain ⟨b1, b2, b3, b4⟩ := rt u2 (by omega) u3 e3
                obtain ⟨v1, v2, v3⟩ := rb b3 b2 b4 e4
                obtain ⟨c1, c2, c3, c4⟩ := rt v2 (by omega) v3 e5
                refine ⟨?_, c2, c3, c4⟩
                show wg (tC r1.1 r2.1 r3.1) + p ≤ 116 * sz (tC r1.1 r2.1 r3.1) + r3.2.2 + d
                rw [wg_C, sz_C]
                omega
              · rw [if_neg h9] at h
                by_cases h34 : tw b n p - 11 = 3 ∨ tw b n p - 11 = 4
                · rw [if_pos h34] at h
                  obtain ⟨r1, e1, h⟩ := sbg_in h
                  obtain ⟨r2, e2, h⟩ := sbg_in h
                  cases h
                  obtain ⟨a1, a2, a3, a4⟩ := rt hle.2.2.2 hp1 hte e1
                  obtain ⟨b1, b2, b3, b4⟩ := rt a3 a2 a4 e2
                  refine ⟨?_, b2, b3, b4⟩
                  rcases h34 with e3 | e3
                  · have e14 : tw b n p = 14 := by omega
                    rw [e14, w14] at hwd
                    show wg (tB (tw b n p - 11) r1.1 r2.1) + p ≤ 116 * sz (tB (tw b n p - 11) r1.1 r2.1) + r2.2.2 + d
                    rw [e3, wg_B3, sz_B]
                    omega
                  · have e15 : tw b n p = 15 := by omega
                    rw [e15, w15] at hwd
                    show wg (tB (tw b n p - 11) r1.1 r2.1) + p ≤ 116 * sz (tB (tw b n p - 11) r1.1 r2.1) + r2.2.2 + d
                    rw [e3, wg_B4, sz_B]
                    omega
                · rw [if_neg h34] at h
                  by_cases h56 : tw b n p - 11 = 5 ∨ tw b n p - 11 = 6
                  · rw [if_pos h56] at h
                    obtain ⟨r1, e1, h⟩ := sbg_in h
                    cases h
                    obtain ⟨a1, a2, a3, a4⟩ := rt hle.2.2.2 hp1 hte e1
                    refine ⟨?_, a2, a3, a4⟩
                    rcases h56 with e3 | e3
                    · have e16 : tw b n p = 16 := by omega
                      rw [e16, w16] at hwd
                      show wg (tU (tw b n p - 11) .null r1.1) + p ≤ 116 * sz (tU (tw b n p - 11) .null r1.1) + r1.2.2 + d
                      rw [e3, wg_U5, sz_U]
                      omega
                    · have e17 : tw b n p = 17 := by omega
                      rw [e17, w17] at hwd
                      show wg (tU (tw b n p - 11) .null r1.1) + p ≤ 116 * sz (tU (tw b n p - 11) .null r1.1) + r1.2.2 + d
                      rw [e3, wg_U6, sz_U]
                      omega
                  · rw [if_neg h56] at h
                    obtain ⟨w, e1, h⟩ := sbg_in h
                    obtain ⟨r1, e2, h⟩ := sbg_in h
                    cases h
                    obtain ⟨v1, v2, v3⟩ := hdF_tx hle.2.2.2 hte e1
                    obtain ⟨x1, x2, x3, x4⟩ := rt v2 (by omega) v3 e2
                    refine ⟨?_, x2, x3, x4⟩
                    have hc : tw b n p = 18 ∨ tw b n p = 19 ∨ tw b n p = 21 := by omega
                    show wg (tU (tw b n p - 11) (hdF w.1) r1.1) + p ≤ 116 * sz (tU (tw b n p - 11) (hdF w.1) r1.1) + r1.2.2 + d
                    rw [sz_U]
                    rcases hc with e3 | e3 | e3
                    · rw [e3, w18] at hwd
                      rw [e3, show (18 : Nat) - 11 = 7 from rfl, wg_U7]
                      omega
                    · rw [e3, w19] at hwd
                      rw [e3, show (19 : Nat) - 11 = 8 from rfl, wg_U8]
                      omega
                    · rw [e3, w21] at hwd
                      rw [e3, show (21 : Nat) - 11 = 10 from rfl, wg_UX]
                      omega
          · omega
      · cases h
end WGT
/-- formulas of the class's table have no other leaves -/
theorem tab_lvs : ∀ {c : Nat} {k l r : Nat → Int32}, TbI c k l r → c ≤ 20000 → ∀ i, i < c → blen (dT k l r i) + 5 ≤ 7 * lvs (dT k l r i) := by
  intro c k l r hT hc i
  induction i using Nat.strongRecOn with
  | ind i ih =>
  intro hi
  rcases hT i hi with ⟨j, hj, e1, e2, e3⟩ | ⟨j, a, b, h1, h2, ha, hb, e1, e2, e3⟩
  · rw [dT_leaf hT (by omega) hi hj e1]
    show wlN j + 5 ≤ 7 * 1
    have : ∀ j, j < 9 → wlN j ≤ 2 := by decide
    have := this j hj
    omega
  · rw [dT_node hT (by omega) hi h1 h2 e1 e2 e3 ha hb]
    have ia := ih a ha (by omega)
    have ib := ih b hb (by omega)
    have hj : j = 9 ∨ j = 10 ∨ j = 11 := by omega
    rcases hj with rfl | rfl | rfl
    · show 5 + blen (dT k l r a) + blen (dT k l r b) + 5 ≤ 7 * (lvs (dT k l r a) + lvs (dT k l r b))
      omega
    · show 5 + blen (dT k l r a) + blen (dT k l r b) + 5 ≤ 7 * (lvs (dT k l r a) + lvs (dT k l r b))
      omega
    · show 4 + blen (dT k l r a) + blen (dT k l r b) + 5 ≤ 7 * (lvs (dT k l r a) + lvs (dT k l r b))
      omega
theorem Inn.m210 {M : Mem} {c : Nat} (hT : TabC M c) {f : Fm} (h : Inn M c f) (hw : wdf f ≤ 60) : blen f + 5 ≤ 210 := by
  obtain ⟨v, v1, v2⟩ := h
  have h1 := tab_lvs hT.2.2.1 (by have := hT.2.1; omega) v v1
  have v2 : dT (M.2.2.1 3) (M.2.2.1 4) (M.2.2.1 5) v = f := v2
  rw [v2] at h1
  have h2 := lvs_w f
  omega
