/-! READING A TERM in the reference: along the text -/
section RRY
variable {M : Mem} {b : Nat → Nat} {n : Nat} {c : Nat} {H : List (Nat × Fm)} {sc : List Nat} {l : List (Nat × Tm)} {pls : List Nat} {p : Nat}
def RyH (k z : Nat) (b : Nat → Nat) (n : Nat) (H : List (Nat × Fm)) : Prop := ∀ {sc : List Nat} {l : List (Nat × Tm)} {pls : List Nat} {p c : Nat} {M : Mem}, RrS M c b n H sc l pls p → l.length ≤ 120 → 121 ≤ l.length + z → 0 < c → c + (n - p) ≤ 10000 → RyO (k + 45) M c b n H sc l pls p (rdT b n H z p sc l.length)
theorem cl_87 (hc0 : 0 < c) {M4 : Mem} {e : Nat × Nat} (h : RyF M c n p M4 e) (hW : Wd M4) (k : Nat) {m : Nat} (hm : m < 400) (x : Int32) : ∃ M5, lpR (k + 45) 87 [.ref 89, .int (nI m), .int x] M4 = some ((), M5) ∧ RyF M c n p M5 e := by
  obtain ⟨M5, e5, F5, g5⟩ := dd_87 hW (k + 43) h.wr hm x
  exact ⟨M5, e5, h.dd hc0 F5 (fun _ _ _ i _ => g5 i)⟩
theorem cl_125 {k : Nat} (hc0 : 0 < c) {M3 M4 : Mem} {e : Nat × Nat} (hW3 : Wd M3) (er : f_X11_readTerm (k + 45) 89 M3 = some ((), M4)) (h : RyF M c n p M4 e) (hW : Wd M4) (x : Int32) : ∃ M5, lpR (k + 45) 125 [.ref 89, .int x] M3 = some ((), M5) ∧ RyF M c n p M5 e := by
  obtain ⟨x1, x2⟩ := b125 hW3 (k + 45) x er hW
  by_cases q : x = 1
  · have h2 := h.a39 hc0 (M4.2.2.1 89 39 - 1)
    exact ⟨_, (x1 q).trans (dd_145 (hW.wI _ _ _) (k + 44) h2.wr x), h2⟩
  · exact ⟨_, (x2 q).trans (dd_145 hW (k + 44) h.wr x), h⟩
set_option maxHeartbeats 1000000 in
theorem ry_arm {k z : Nat} (ih : RyH k z b n H) (hH6 : H.length ≤ 6) (h : RrS M c b n H sc l pls p) (hl : l.length ≤ 120) (hz : 121 ≤ l.length + z) (hc0 : 0 < c) (hc : c + (n - p) ≤ 10000) {j : Nat} (hj : j < 2) : (∀ e, sbg (rdB b n p sc) (fun u => rdT b n H z u.2 (sc ++ [u.1]) l.length) = .inl e → ∃ M1, lpR (k + 45) 164 [.ref 89, .int 8, .int (nI j)] M = some ((), M1) ∧ RyF M c n p M1 e) ∧ (∀ r, sbg (rdB b n p sc) (fun u => rdT b n H z u.2 (sc ++ [u.1]) l.length) = .inr r → ∃ M1 c1, lpR (k + 45) 164 [.ref 89, .int 8, .int (nI j)] M = lpR (k + 45) 164 [.ref 89, .int 8, .int (nI (j + 1))] M1 ∧ RyG M c n p M1 c1 r.2.2 ∧ RrS M1 c1 b n H sc (l ++ rws r.1) (pls ++ r.2.1) r.2.2) := by
  have hW := h.1
  have hp := h.2.2.2.2.2.2.2.1.2
  have h30 := h.2.2.2.2.2.2.2.2.1
  obtain ⟨-, t2⟩ := rx_tells0 hW h.2.1 hp h.2.2.2.2.2.2.2.1.1 h.2.2.2.2.2.2.1 (k + 39)
  obtain ⟨t3, t4⟩ := t2 h30
  cases hb : rdB b n p sc with
  | inl e0 =>
    rw [sbg_l]
    refine ⟨fun e q => ?_, fun r q => (by cases q)⟩
    cases q
    obtain ⟨M1, e1, F1⟩ := t3 e0 hb
    have hk : 1 ≤ e0.1 ∧ e0.1 ≤ 5 := by
      unfold rdB at hb
      by_cases hN : isN b n p
      · rw [itc_pos hN] at hb
        split at hb
        · cases hb
          exact ⟨by omega, by omega⟩
        · cases hb
      · rw [itc_neg hN] at hb
        cases hb
        exact ⟨by omega, by omega⟩
    have hf : RyF M c n p (wI (wI M1 89 30 (nI e0.1)) 89 31 (nI e0.2)) e0 := (h.oks hl).fail F1 (fun a k q => by unfold SP at q; omega) hk
    have hW2 := hf.wd hW
    have er := dd_rt hW2 (k + 44) hf.wr
    have e2 := b164_s hW (k + 45) hj h30 e1 hW2 er hW2
    have hf2 := hf.a39 hc0 ((wI (wI M1 89 30 (nI e0.1)) 89 31 (nI e0.2)).2.2.1 89 39 - 1)
    exact ⟨_, e2.trans (dd_164 (hW2.wI _ _ _) (k + 45) hf2.wr 8 (nI (j + 1))), hf2⟩
  | inr u =>
    rw [sbg_r]
    obtain ⟨M1, e1, F1, g1, S1⟩ := t4 u hb
    obtain ⟨q1, q2, q3⟩ := rdB_in hb
    have hle := tq_le b n p hp
    have hu : u.2 ≤ n ∧ p ≤ u.2 := by rw [q3]; exact ⟨hle.2.2.2, by show p ≤ te b n p; omega⟩
    have hS1 : RrS M1 c b n H (sc ++ [u.1]) l pls u.2 := h.mvS F1 (fun a k q => by unfold STl at q; omega) S1 g1 hu.1
    have G1 : RyG M c n p M1 c u.2 := ⟨F1.mono (fun a k q => by unfold STl at q; unfold SRy; omega), Nat.le_refl _, by omega, fun i _ => by rw [(tabR_mv h.2.2.1 F1 (by unfold STl; omega) (fun a k q => by unfold STl at q; omega)).2 i]⟩
    have o1 := ih hS1 hl hz hc0 (by omega)
    have hW1 := hS1.1
    cases hr : rdT b n H z u.2 (sc ++ [u.1]) l.length with
    | inl e0 =>
      rw [hr] at o1
      refine ⟨fun e q => ?_, fun r q => (by cases q)⟩
      cases q
      obtain ⟨M2, er, f2⟩ := o1
      have hW2 := f2.wd hW1
      have e2 := b164_s hW (k + 45) hj h30 e1 hW1 er hW2
      have hf2 := (f2.a39 hc0 (M2.2.2.1 89 39 - 1))
      exact ⟨_, e2.trans (dd_164 (hW2.wI _ _ _) (k + 45) hf2.wr 8 (nI (j + 1))), G1.flt hf2⟩
    | inr r0 =>
      rw [hr] at o1
      refine ⟨fun e q => (by cases q), fun r q => ?_⟩
      cases q
      obtain ⟨M2, c2, er, G2, S2⟩ := o1
      have e2 := b164_s hW (k + 45) hj h30 e1 hW1 er S2.1
      refine ⟨_, c2, e2, G1.trans ⟨G2.1.wI (by unfold SRy; omega) _, G2.2.1, G2.2.2.1, G2.2.2.2⟩, S2.pop39⟩
set_option maxHeartbeats 4000000 in
theorem ry_main (hH6 : H.length ≤ 6) : ∀ z {N : Nat}, z + 60 ≤ N → ∀ {sc : List Nat} {l : List (Nat × Tm)} {pls : List Nat} {p c : Nat} {M : Mem}, RrS M c b n H sc l pls p → l.length ≤ 120 → 121 ≤ l.length + z → 0 < c → c + (n - p) ≤ 10000 → RyO N M c b n H sc l pls p (rdT b n H z p sc l.length) := by
  intro z
  induction z with
  | zero =>
    intro N hN sc l pls p c M h hl hz
    omega
  | succ z ih0 =>
    intro N hN sc l pls p c M h hl hz hc0 hc
    obtain ⟨k, rfl⟩ : ∃ k, N = k + 46 := ⟨N - 46, by omega⟩
    have ih : RyH k z b n H := fun h1 h2 h3 h4 h5 => ih0 (N := k + 45) (by omega) h1 h2 h3 h4 h5
    clear ih0
    have hW := h.1
    have hp := h.2.2.2.2.2.2.2.1.2
    have hle := tq_le b n p hp
    have h24 := h.2.2.2.2.1.1
    have h30 := h.2.2.2.2.2.2.2.2.1
    obtain ⟨M2, F2, g2, q1, q2, q3⟩ := ry_head h (k + 40)
    have hW2 := F2.Wd hW
    by_cases hNm : isN b n p
    · rw [rdT_N hNm]
      obtain ⟨w1, w2⟩ := ry_name h hl hNm F2 g2 (k + 40)
      have run : ∀ M3, f_X11_readName0 (k + 40 + 5) 89 (nI (tq b n p)) (nI (te b n p - tq b n p)) M2 = some ((), M3) → f_X11_readTerm (k + 46) 89 M = some ((), M3) := fun M3 e => by
        rw [q1 hNm, e]
      cases hmn : mng sc H (nmAt b n p) with
      | none =>
        rw [rdN_n]
        obtain ⟨M3, e3, f3⟩ := w1 (3, tq b n p) (by rw [hmn]; rfl)
        exact ⟨M3, run M3 e3, f3⟩
      | some t =>
        rw [rdN_s]
        by_cases h120 : 120 ≤ l.length
        · rw [if_pos h120]
          obtain ⟨M3, e3, f3⟩ := w1 (4, tq b n p) (by rw [hmn, rdN_s, if_pos h120])
          exact ⟨M3, run M3 e3, f3⟩
        · rw [if_neg h120]
          obtain ⟨M3, e3, F3, S3⟩ := w2 t hmn (by omega)
          have hrw : rws t = [(1, t)] := by
            unfold mng at hmn
            cases hq : lstI sc (nmAt b n p) sc.length with
            | some j => rw [hq] at hmn; cases hmn; rfl
            | none =>
              rw [hq] at hmn
              cases hq2 : fstI H (nmAt b n p) H.length 0 with
              | some j => rw [hq2] at hmn; cases hmn; rfl
              | none => rw [hq2] at hmn; cases hmn
          refine ⟨M3, c, run M3 e3, ⟨F3.mono (fun a k q => by unfold SAd at q; unfold SRy; omega), Nat.le_refl _, ?_, fun i _ => by rw [(tabR_mv h.2.2.1 F3 (by unfold SAd; omega) (fun a k q => by unfold SAd at q; omega)).2 i]⟩, ?_⟩
          · show c + (n - te b n p) ≤ _
            omega
          · show RrS M3 c b n H sc (l ++ rws t) (pls ++ [tq b n p]) (te b n p)
            rw [hrw]
            exact S3
    · rw [rdT_O hNm]
      by_cases hw : 13 ≤ tw b n p ∧ tw b n p ≤ 21
      · rw [if_pos hw]
        obtain ⟨o, ho⟩ : ∃ o, o = tw b n p - 11 := ⟨_, rfl⟩
        have hx : tw b n p - 12 = o - 1 := by omega
        rw [hx] at q3
        have m24 : M2.2.2.1 89 24 = nI l.length := (F2.int (by unfold SP; omega)).trans h24
        rw [m24] at q3
        by_cases h120 : 120 ≤ l.length
        · rw [if_pos h120]
          have m30 : M2.2.2.1 89 30 = 0 := (F2.int (by unfold SP; omega)).trans h30
          have X2 : TxR M2 b n := h.2.1.fr F2 (by unfold SP; omega) (fun k => by unfold SP; omega)
          have ea := (rx_adds hW2 X2 hp g2 m24 hl (k + 42) (nI (tq b n p)) (nI (o - 1)) (-1)).2.1 m30 (by omega)
          have hf : RyF M c n p (wI (wI M2 89 30 (nI 4)) 89 31 (nI (tq b n p))) (4, tq b n p) := (h.oks hl).fail F2 (fun a k q => by unfold SP at q; omega) (by omega)
          have hW3 := hf.wd hW
          obtain ⟨r1, r2⟩ := q3 hNm hw _ ea hW3
          obtain ⟨M5, e5, f5⟩ := cl_87 hc0 hf hW3 k (show l.length < 400 by omega) (nI (o - 1))
          by_cases h13 : tw b n p = 13
          · have FX : Fr (fun a k => a = 89 ∧ (k = 30 ∨ k = 31)) M2 (wI (wI M2 89 30 (nI 4)) 89 31 (nI (tq b n p))) := (Fr.refl.wI ⟨rfl, by omega⟩ _).wI ⟨rfl, by omega⟩ _
            have S2 : ScR M2 sc := h.2.2.2.2.2.2.1.mv F2 (by unfold SP; omega) (fun k => by unfold SP; omega) (fun k => by unfold SP; omega)
            have et := (rx_tells0 hW3 (X2.fr FX (by omega) (by omega)) (p := tq b n p) hle.2.1 (by simp [up2_if, g2]) (S2.mv FX (by omega) (by omega) (by omega)) (k + 39)).1 hf.wr
            exact ⟨M5, (r2 h13 _ et).trans e5, f5⟩
          · exact ⟨M5, (r1 h13).trans e5, f5⟩
        · rw [if_neg h120]
          obtain ⟨M3, ea, F3, P3⟩ := ry_add h (by omega) F2 g2 (k + 42) o (-1)
          obtain ⟨r1, r2⟩ := q3 hNm hw M3 ea P3.1
          have G3 : RyG M c n p M3 c (te b n p) := ⟨F3.mono (fun a k q => by unfold SAd at q; unfold SRy; omega), Nat.le_refl _, by omega, fun i _ => by rw [(tabR_mv h.2.2.1 F3 (by unfold SAd; omega) (fun a k q => by unfold SAd at q; omega)).2 i]⟩
          have hlt := te_lt (b := b) p hp
          rw [← ho]
          obtain ⟨pl, hpl⟩ : ∃ pl, pl = tq b n p := ⟨_, rfl⟩
          rw [← hpl] at P3 ⊢
          obtain ⟨q0, hq0⟩ : ∃ q0, q0 = te b n p := ⟨_, rfl⟩
          rw [← hq0] at P3 G3 hlt ⊢
          have hc3 : c + (n - q0) ≤ 10000 := by have := G3.2.2.1; omega
          have ho2 : 2 ≤ o ∧ o ≤ 10 := by omega
          clear q1 q2 q3
          have hW3 := P3.1
          -- kinds as numbers
          have kd : ∀ j : Nat, j < 100 → ((nI (o - 1) = nI j) ↔ o - 1 = j) := fun j hj => nI_eq (by omega) (by omega)
          -- an only child is read, the node is told already
          have fin1 : ∀ {M4 : Mem} {c4 q4 : Nat} {lb : Tm}, o ≠ 2 → o ≠ 3 → o ≠ 4 → o ≠ 9 → RyG M c n p M4 c4 q4 → RrS M4 c4 b n H sc (l ++ [(o, lb)]) (pls ++ [pl]) q4 → f_X11_readTerm (k + 46) 89 M = lpR (k + 45) 125 [.ref 89, .int (nI (o - 1))] M4 → RyO (k + 46) M c b n H sc l pls p (sbg (rdT b n H z q4 sc (l.length + 1)) (fun r => .inr (tU o lb r.1, pl :: r.2.1, r.2.2))) := by
            intro M4 c4 q4 lb n2 n3 n4 n9 G4 S4 e4
            have o5 := ih S4 (by simp; omega) (by simp; omega) (Nat.lt_of_lt_of_le hc0 G4.2.1) (by have := G4.2.2.1; omega)
            rw [show (l ++ [(o, lb)]).length = l.length + 1 by simp] at o5
            cases hr : rdT b n H z q4 sc (l.length + 1) with
            | inl e =>
              rw [hr] at o5
              rw [sbg_l]
              obtain ⟨M5, er, f5⟩ := o5
              obtain ⟨M6, e6, f6⟩ := cl_125 (Nat.lt_of_lt_of_le hc0 G4.2.1) S4.1 er f5 (f5.wd S4.1) (nI (o - 1))
              exact ⟨M6, e4.trans e6, G4.flt f6⟩
            | inr r =>
              rw [hr] at o5
              rw [sbg_r]
              obtain ⟨M5, c5, er, G5, S5⟩ := o5
              have x1 : ¬ nI (o - 1) = (1 : Int32) := fun q => by have := (kd 1 (by omega)).mp q; omega
              have x2 : ¬ (nI (o - 1) = (2 : Int32) ∨ nI (o - 1) = (3 : Int32)) := fun q => by
                rcases q with q | q
                · have := (kd 2 (by omega)).mp q; omega
                · have := (kd 3 (by omega)).mp q; omega
              have x8 : ¬ nI (o - 1) = (8 : Int32) := fun q => by have := (kd 8 (by omega)).mp q; omega
              refine ⟨M5, c5, e4.trans (((b125 S4.1 (k + 45) (nI (o - 1)) er S5.1).2 x1).trans (((b145 (M1 := M5) S5.1 (k + 45) (nI (o - 1))).2 x2).trans (b164_e (k + 45) _ _ (Or.inl x8)))), G4.trans G5, ?_⟩
              have e : l ++ rws (tU o lb r.1) = l ++ [(o, lb)] ++ rws r.1 := by rw [rws_U]; simp
              have e2 : pls ++ (pl :: r.2.1) = pls ++ [pl] ++ r.2.1 := by simp
              show RrS M5 c5 b n H sc (l ++ rws (tU o lb r.1)) (pls ++ (pl :: r.2.1)) r.2.2
              rw [e, e2]
              exact S5
          unfold rdK
          by_cases h2 : o = 2
          · rw [if_pos h2]
            have h13 : tw b n p = 13 := by omega
            have hq0n := P3.2.2.2.2.2.2.2.1.2
            obtain ⟨-, t2⟩ := rx_tells0 hW3 P3.2.1 hq0n P3.2.2.2.2.2.2.2.1.1 P3.2.2.2.2.2.2.1 (k + 39)
            obtain ⟨t3, t4⟩ := t2 P3.2.2.2.2.2.2.2.2.1
            cases hb : rdB b n q0 sc with
            | inl e0 =>
              rw [sbg_l]
              obtain ⟨M4, e4, F4⟩ := t3 e0 hb
              have hk : 1 ≤ e0.1 ∧ e0.1 ≤ 5 := by
                unfold rdB at hb
                by_cases hNq : isN b n q0
                · rw [itc_pos hNq] at hb
                  split at hb
                  · cases hb
                    exact ⟨by omega, by omega⟩
                  · cases hb
                · rw [itc_neg hNq] at hb
                  cases hb
                  exact ⟨by omega, by omega⟩
              have hf : RyF M3 c n q0 (wI (wI M4 89 30 (nI e0.1)) 89 31 (nI e0.2)) e0 := (P3.oks hl).fail F4 (fun a k q => by unfold SP at q; omega) hk
              obtain ⟨M5, e5, f5⟩ := cl_87 hc0 hf (hf.wd hW3) k (show l.length < 400 by omega) (nI (o - 1))
              exact ⟨M5, (r2 h13 _ e4).trans e5, G3.flt f5⟩
            | inr u =>
              rw [sbg_r]
              obtain ⟨M4, e4, F4, g4, S4⟩ := t4 u hb
              have hle2 := tq_le b n q0 hq0n
              have hue := (rdB_in hb).2.2
              have hu : u.2 ≤ n ∧ q0 ≤ u.2 := by rw [hue]; exact ⟨hle2.2.2.2, by show q0 ≤ te b n q0; omega⟩
              have P4 := P3.mvS F4 (fun a k q => by unfold STl at q; omega) S4 g4 hu.1
              have G4 : RyG M3 c n q0 M4 c u.2 := ⟨F4.mono (fun a k q => by unfold STl at q; unfold SRy; omega), Nat.le_refl _, by omega, fun i _ => by rw [(tabR_mv P3.2.2.1 F4 (by unfold STl; omega) (fun a k q => by unfold STl at q; omega)).2 i]⟩
              have hlu : u.2 < n → ¬ isLt (b u.2) := by
                rw [hue]
                exact te_lt q0 hq0n
              obtain ⟨y1, y2⟩ := ry_form P4 (Or.inl h2) (by omega) hc0 (by have := G4.2.2.1; omega) hlu k
              have e40 := r2 h13 M4 e4
              cases hs : scan b n 30 u.2 1 with
              | inl e =>
                rw [sbg_l]
                obtain ⟨M5, e5, f5⟩ := y1 e hs
                exact ⟨M5, e40.trans e5, (G3.trans G4).flt f5⟩
              | inr w =>
                rw [sbg_r]
                obtain ⟨M5, c5, e5, G5, S5⟩ := y2 w hs
                have G15 := (G3.trans G4).trans G5
                have o6 := ih S5 (by simp; omega) (by simp; omega) (Nat.lt_of_lt_of_le hc0 G15.2.1) (by have := G15.2.2.1; omega)
                rw [show (l ++ [(o, hdF w.1)]).length = l.length + 1 by simp] at o6
                cases hr : rdT b n H z w.2 (sc ++ [u.1]) (l.length + 1) with
                | inl e =>
                  rw [hr] at o6
                  rw [sbg_l]
                  obtain ⟨M6, er, f6⟩ := o6
                  obtain ⟨M7, e7, f7⟩ := cl_125 (Nat.lt_of_lt_of_le hc0 G15.2.1) S5.1 er f6 (f6.wd S5.1) (nI (o - 1))
                  exact ⟨M7, e40.trans (e5.trans e7), G15.flt f7⟩
                | inr r =>
                  rw [hr] at o6
                  rw [sbg_r]
                  obtain ⟨M6, c6, er, G6, S6⟩ := o6
                  have x1 : nI (o - 1) = (1 : Int32) := by rw [h2]; rfl
                  have S7 := S6.pop39
                  have x2 : ¬ (nI (o - 1) = (2 : Int32) ∨ nI (o - 1) = (3 : Int32)) := by rw [x1]; decide
                  have x8 : ¬ nI (o - 1) = (8 : Int32) := by rw [x1]; decide
                  refine ⟨_, c6, e40.trans (e5.trans (((b125 S5.1 (k + 45) (nI (o - 1)) er S6.1).1 x1).trans (((b145 (M1 := M6) S7.1 (k + 45) (nI (o - 1))).2 x2).trans (b164_e (k + 45) _ _ (Or.inl x8))))), G15.trans ⟨G6.1.wI (by unfold SRy; omega) _, G6.2.1, G6.2.2.1, G6.2.2.2⟩, ?_⟩
                  have e : l ++ rws (tU 2 (hdF w.1) r.1) = l ++ [(o, hdF w.1)] ++ rws r.1 := by rw [rws_U, h2]; simp
                  have e2 : pls ++ (pl :: r.2.1) = pls ++ [pl] ++ r.2.1 := by simp
                  show RrS _ c6 b n H sc (l ++ rws (tU 2 (hdF w.1) r.1)) (pls ++ (pl :: r.2.1)) r.2.2
                  rw [e, e2]
                  exact S7
          · rw [if_neg h2]
            have h13 : tw b n p ≠ 13 := by omega
            have e3 := r1 h13
            by_cases htf : tf o
            · have n9 : o ≠ 9 := by unfold tf at htf; omega
              have n34 : ¬ (o = 3 ∨ o = 4) := by unfold tf at htf; omega
              have n56 : ¬ (o = 5 ∨ o = 6) := by unfold tf at htf; omega
              rw [if_neg n9, if_neg n34, if_neg n56]
              obtain ⟨y1, y2⟩ := ry_form P3 htf (by omega) hc0 hc3 hlt k
              cases hs : scan b n 30 q0 1 with
              | inl e =>
                rw [sbg_l]
                obtain ⟨M5, e5, f5⟩ := y1 e hs
                exact ⟨M5, e3.trans e5, G3.flt f5⟩
              | inr w =>
                rw [sbg_r]
                obtain ⟨M5, c5, e5, G5, S5⟩ := y2 w hs
                exact fin1 h2 (by omega) (by omega) n9 (G3.trans G5) S5 (e3.trans e5)
            · have S4 : RrS M3 c b n H sc (l ++ [(o, .null)]) (pls ++ [pl]) q0 := P3.done (by omega) (by omega) ⟨fun q => absurd q (by show ¬ o = 1; omega), fun q => (htf q).elim, fun _ _ => rfl⟩ (fun q => (htf q).elim)
              have e4 := e3.trans (b87_p (M := M3) (k + 45) (nI l.length) (nI (o - 1)) (fun q => by
                unfold tf at htf
                rcases q with q | q | q | q
                · have := (kd 1 (by omega)).mp q; omega
                · have := (kd 6 (by omega)).mp q; omega
                · have := (kd 7 (by omega)).mp q; omega
                · have := (kd 9 (by omega)).mp q; omega))
              by_cases h9 : o = 9
              · rw [if_pos h9]
                have o5 := ih S4 (by simp; omega) (by simp; omega) hc0 hc3
                rw [show (l ++ [(o, (Jvm.Term.null : Tm))]).length = l.length + 1 by simp] at o5
                cases hr1 : rdT b n H z q0 sc (l.length + 1) with
                | inl e =>
                  rw [hr1] at o5
                  rw [sbg_l]
                  obtain ⟨M5, er, f5⟩ := o5
                  obtain ⟨M6, e6, f6⟩ := cl_125 hc0 S4.1 er f5 (f5.wd S4.1) (nI (o - 1))
                  exact ⟨M6, e4.trans e6, G3.flt f6⟩
                | inr ra =>
                  rw [hr1] at o5
                  rw [sbg_r]
                  obtain ⟨M5, c5, er, G5, S5⟩ := o5
                  have hk1 := rdT_ok hH6 z P3.2.2.2.2.2.2.2.1.2 hr1
                  have hs1 := hk1.2.1
                  have hm1 := hk1.2.2.2.2.1
                  have x8 : nI (o - 1) = (8 : Int32) := by rw [h9]; rfl
                  have x1 : ¬ nI (o - 1) = (1 : Int32) := by rw [x8]; decide
                  have x2 : ¬ (nI (o - 1) = (2 : Int32) ∨ nI (o - 1) = (3 : Int32)) := by rw [x8]; decide
                  have e5 := e4.trans (((b125 S4.1 (k + 45) (nI (o - 1)) er S5.1).2 x1).trans ((b145 (M1 := M5) S5.1 (k + 45) (nI (o - 1))).2 x2))
                  rw [x8] at e5
                  have G15 := G3.trans G5
                  have hl5 : (l ++ [(o, (Jvm.Term.null : Tm))] ++ rws ra.1).length = l.length + 1 + ra.2.1.length := by
                    simp only [List.length_append, List.length_cons, List.length_nil, rws_len]
                    omega
                  obtain ⟨a1, a2⟩ := ry_arm ih hH6 S5 (by omega) (by omega) (Nat.lt_of_lt_of_le hc0 G15.2.1) (by have := G15.2.2.1; omega) (j := 0) (by omega)
                  rw [hl5] at a1 a2
                  have e5' : f_X11_readTerm (k + 46) 89 M = lpR (k + 45) 164 [.ref 89, .int 8, .int (nI 0)] M5 := e5
                  have as1 : ∀ {β : Type} (kk : Tm × List Nat × Nat → (Nat × Nat) ⊕ β), sbg (rdB b n ra.2.2 sc) (fun u => sbg (rdT b n H z u.2 (sc ++ [u.1]) (l.length + 1 + ra.2.1.length)) kk) = sbg (sbg (rdB b n ra.2.2 sc) (fun u => rdT b n H z u.2 (sc ++ [u.1]) (l.length + 1 + ra.2.1.length))) kk := fun kk => by
                    cases rdB b n ra.2.2 sc with
                    | inl e => rfl
                    | inr u => rfl
                  rw [as1]
                  cases hr2 : sbg (rdB b n ra.2.2 sc) (fun u => rdT b n H z u.2 (sc ++ [u.1]) (l.length + 1 + ra.2.1.length)) with
                  | inl e =>
                    rw [sbg_l]
                    obtain ⟨M6, e6, f6⟩ := a1 e hr2
                    exact ⟨M6, e5'.trans e6, G15.flt f6⟩
                  | inr rb =>
                    rw [sbg_r]
                    obtain ⟨M6, c6, e6, G6, S6⟩ := a2 rb hr2
                    have G16 := G15.trans G6
                    obtain ⟨u, hu1, hu2⟩ := sbg_in hr2
                    have hue := (rdB_in hu1).2.2
                    have hun : u.2 ≤ n := by
                      rw [hue]
                      exact (tq_le b n ra.2.2 S5.2.2.2.2.2.2.2.1.2).2.2.2
                    have hk2 := rdT_ok hH6 z hun hu2
                    have hs2 := hk2.2.1
                    have hm2 := hk2.2.2.2.2.1
                    have hl6 : (l ++ [(o, (Jvm.Term.null : Tm))] ++ rws ra.1 ++ rws rb.1).length = l.length + 1 + ra.2.1.length + rb.2.1.length := by
                      rw [List.length_append, hl5, rws_len]
                      omega
                    obtain ⟨b1, b2⟩ := ry_arm ih hH6 S6 (by omega) (by omega) (Nat.lt_of_lt_of_le hc0 G16.2.1) (by have := G16.2.2.1; omega) (j := 1) (by omega)
                    rw [hl6] at b1 b2
                    have as2 : ∀ {β : Type} (kk : Tm × List Nat × Nat → (Nat × Nat) ⊕ β), sbg (rdB b n rb.2.2 sc) (fun u => sbg (rdT b n H z u.2 (sc ++ [u.1]) (l.length + 1 + ra.2.1.length + rb.2.1.length)) kk) = sbg (sbg (rdB b n rb.2.2 sc) (fun u => rdT b n H z u.2 (sc ++ [u.1]) (l.length + 1 + ra.2.1.length + rb.2.1.length))) kk := fun kk => by
                      cases rdB b n rb.2.2 sc with
                      | inl e => rfl
                      | inr u => rfl
                    rw [as2]
                    cases hr3 : sbg (rdB b n rb.2.2 sc) (fun u => rdT b n H z u.2 (sc ++ [u.1]) (l.length + 1 + ra.2.1.length + rb.2.1.length)) with
                    | inl e =>
                      rw [sbg_l]
                      obtain ⟨M7, e7, f7⟩ := b1 e hr3
                      exact ⟨M7, e5'.trans (e6.trans e7), G16.flt f7⟩
                    | inr rc =>
                      rw [sbg_r]
                      obtain ⟨M7, c7, e7, G7, S7⟩ := b2 rc hr3
                      refine ⟨M7, c7, e5'.trans (e6.trans (e7.trans (b164_e (k + 45) 8 (nI 2) (Or.inr (by decide))))), G16.trans G7, ?_⟩
                      have e : l ++ rws (tC ra.1 rb.1 rc.1) = l ++ [(o, .null)] ++ rws ra.1 ++ rws rb.1 ++ rws rc.1 := by rw [rws_C, h9]; simp
                      have e2 : pls ++ (pl :: (ra.2.1 ++ (rb.2.1 ++ rc.2.1))) = pls ++ [pl] ++ ra.2.1 ++ rb.2.1 ++ rc.2.1 := by simp
                      show RrS M7 c7 b n H sc (l ++ rws (tC ra.1 rb.1 rc.1)) (pls ++ (pl :: (ra.2.1 ++ (rb.2.1 ++ rc.2.1)))) rc.2.2
                      rw [e, e2]
                      exact S7
              · rw [if_neg h9]
                by_cases h34 : o = 3 ∨ o = 4
                · rw [if_pos h34]
                  have o5 := ih S4 (by simp; omega) (by simp; omega) hc0 hc3
                  rw [show (l ++ [(o, (Jvm.Term.null : Tm))]).length = l.length + 1 by simp] at o5
                  have x1 : ¬ nI (o - 1) = (1 : Int32) := fun q => by have := (kd 1 (by omega)).mp q; omega
                  have x2 : nI (o - 1) = (2 : Int32) ∨ nI (o - 1) = (3 : Int32) := by
                    rcases h34 with rfl | rfl
                    · exact Or.inl rfl
                    · exact Or.inr rfl
                  have x8 : ¬ nI (o - 1) = (8 : Int32) := fun q => by have := (kd 8 (by omega)).mp q; omega
                  cases hr1 : rdT b n H z q0 sc (l.length + 1) with
                  | inl e =>
                    rw [hr1] at o5
                    rw [sbg_l]
                    obtain ⟨M5, er, f5⟩ := o5
                    obtain ⟨M6, e6, f6⟩ := cl_125 hc0 S4.1 er f5 (f5.wd S4.1) (nI (o - 1))
                    exact ⟨M6, e4.trans e6, G3.flt f6⟩
                  | inr ra =>
                    rw [hr1] at o5
                    rw [sbg_r]
                    obtain ⟨M5, c5, er, G5, S5⟩ := o5
                    have hk1 := rdT_ok hH6 z P3.2.2.2.2.2.2.2.1.2 hr1
                    have hs1 := hk1.2.1
                    have hm1 := hk1.2.2.2.2.1
                    have e5 := e4.trans ((b125 S4.1 (k + 45) (nI (o - 1)) er S5.1).2 x1)
                    have G15 := G3.trans G5
                    have hl5 : (l ++ [(o, (Jvm.Term.null : Tm))] ++ rws ra.1).length = l.length + 1 + ra.2.1.length := by
                      simp only [List.length_append, List.length_cons, List.length_nil, rws_len]
                      omega
                    have o6 := ih S5 (by omega) (by omega) (Nat.lt_of_lt_of_le hc0 G15.2.1) (by have := G15.2.2.1; omega)
                    rw [hl5] at o6
                    cases hr2 : rdT b n H z ra.2.2 sc (l.length + 1 + ra.2.1.length) with
                    | inl e =>
                      rw [hr2] at o6
                      rw [sbg_l]
                      obtain ⟨M6, er2, f6⟩ := o6
                      exact ⟨M6, e5.trans (((b145 S5.1 (k + 45) (nI (o - 1))).1 x2 er2).trans (dd_164 (f6.wd S5.1) (k + 45) f6.wr _ 0)), G15.flt f6⟩
                    | inr rb =>
                      rw [hr2] at o6
                      rw [sbg_r]
                      obtain ⟨M6, c6, er2, G6, S6⟩ := o6
                      refine ⟨M6, c6, e5.trans (((b145 S5.1 (k + 45) (nI (o - 1))).1 x2 er2).trans (b164_e (k + 45) _ _ (Or.inl x8))), G15.trans G6, ?_⟩
                      have e : l ++ rws (tB o ra.1 rb.1) = l ++ [(o, .null)] ++ rws ra.1 ++ rws rb.1 := by rw [rws_B]; simp
                      have e2 : pls ++ (pl :: (ra.2.1 ++ rb.2.1)) = pls ++ [pl] ++ ra.2.1 ++ rb.2.1 := by simp
                      show RrS M6 c6 b n H sc (l ++ rws (tB o ra.1 rb.1)) (pls ++ (pl :: (ra.2.1 ++ rb.2.1))) rb.2.2
                      rw [e, e2]
                      exact S6
                · rw [if_neg h34]
                  have h56 : o = 5 ∨ o = 6 := by unfold tf at htf; omega
                  rw [if_pos h56]
                  exact fin1 h2 (by omega) (by omega) h9 G3 S4 e4
      · rw [if_neg hw]
        exact ⟨_, q2 hNm hw, (h.oks hl).fail F2 (fun a k q => by unfold SP at q; omega) (kd := 1) (pl := tq b n p) (by omega)⟩
end RRY
