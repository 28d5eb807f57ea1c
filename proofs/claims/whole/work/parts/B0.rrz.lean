/-! READING A TERM in the reference: the text's end -/
section RRZ
variable {M : Mem} {b : Nat → Nat} {n : Nat} {c : Nat} {H : List (Nat × Fm)}
theorem rx_rdX (hH6 : H.length ≤ 6) (h : RrS M c b n H [] [] [] 0) (hc0 : 0 < c) (hc : c + n ≤ 10000) (k : Nat) : (∀ e, rdX b n H = .inl e → ∃ M1, RyF M c n 0 M1 e ∧ (f_X11_readTerm (k + 181) 89 M = some ((), M1) ∨ ∃ Ma Mb, f_X11_readTerm (k + 181) 89 M = some ((), Ma) ∧ Wd Ma ∧ Ma.2.2.1 89 30 = 0 ∧ f_X11_isOver (k + 181) 89 Ma = some (0, Mb) ∧ Wd Mb ∧ f_X11_fails (k + 181) 89 1 (Mb.2.2.1 89 29) Mb = some ((), M1))) ∧ (∀ r, rdX b n H = .inr r → ∃ Ma M1 c1, f_X11_readTerm (k + 181) 89 M = some ((), Ma) ∧ Wd Ma ∧ Ma.2.2.1 89 30 = 0 ∧ f_X11_isOver (k + 181) 89 Ma = some (1, M1) ∧ RyG M c n 0 M1 c1 n ∧ RrS M1 c1 b n H [] (rws r.1) r.2 n) := by
  have o : RyO (k + 181) M c b n H [] [] [] 0 (rdT b n H 121 0 [] 0) := ry_main hH6 121 (by omega) h (Nat.zero_le _) (Nat.le_refl _) hc0 (by omega)
  unfold rdX
  cases hr : rdT b n H 121 0 [] 0 with
  | inl e0 =>
    rw [hr] at o
    obtain ⟨M1, e1, f1⟩ := o
    rw [sbg_l]
    refine ⟨fun e q => ?_, fun r q => (by cases q)⟩
    cases q
    exact ⟨M1, f1, Or.inl e1⟩
  | inr r0 =>
    rw [hr] at o
    obtain ⟨Ma, c1, e1, G1, S0⟩ := o
    have S1 : RrS Ma c1 b n H [] (rws r0.1) r0.2.1 r0.2.2 := S0
    have hWa := S1.1
    have hp := S1.2.2.2.2.2.2.2.1
    have h30 := S1.2.2.2.2.2.2.2.2.1
    have hl : (rws r0.1).length ≤ 120 := by
      have := (rdT_ok hH6 121 (Nat.zero_le _) hr)
      have h1 := S1.2.2.2.2.2.1.2
      have h2 := this.2.2.2.2.1
      omega
    obtain ⟨Mb, oF, o29, oA, oB⟩ := rx_isOver hWa S1.2.1 (k + 179) hp.1 hp.2 h30
    have hWb := oF.Wd hWa
    have g30 : Mb.2.2.1 89 30 = 0 := (oF.int (by simp [SP])).trans h30
    have hle := tq_le b n r0.2.2 hp.2
    rw [sbg_r]
    by_cases hend : tq b n r0.2.2 = n
    · refine ⟨fun e q => ?_, fun r q => ?_⟩
      · have q : (if tq b n r0.2.2 = n then Sum.inr (r0.1, r0.2.1) else Sum.inl (1, tq b n r0.2.2)) = Sum.inl e := q
        rw [if_pos hend] at q
        cases q
      · have q : (if tq b n r0.2.2 = n then Sum.inr (r0.1, r0.2.1) else Sum.inl (1, tq b n r0.2.2)) = Sum.inr r := q
        rw [if_pos hend] at q
        cases q
        have G2 : RyG Ma c1 n r0.2.2 Mb c1 n := ⟨oF.mono (fun a k q => by unfold SP at q; unfold SRy; omega), Nat.le_refl _, by omega, fun i _ => by rw [(tabR_mv S1.2.2.1 oF (by unfold SP; omega) (fun a k q => by unfold SP at q; omega)).2 i]⟩
        exact ⟨Ma, Mb, c1, e1, hWa, h30, oA hend, G1.trans G2, S1.mvS oF (fun a k q => by unfold SP at q; omega) (S1.2.2.2.2.2.2.1.mv oF (by unfold SP; omega) (fun k => by unfold SP; omega) (fun k => by unfold SP; omega)) (o29.trans (by rw [hend])) (Nat.le_refl _)⟩
    · refine ⟨fun e q => ?_, fun r q => ?_⟩
      · have q : (if tq b n r0.2.2 = n then Sum.inr (r0.1, r0.2.1) else Sum.inl (1, tq b n r0.2.2)) = Sum.inl e := q
        rw [if_neg hend] at q
        cases q
        have f1 : RyF Ma c1 n r0.2.2 (wI (wI Mb 89 30 (nI 1)) 89 31 (nI (tq b n r0.2.2))) (1, tq b n r0.2.2) := (S1.oks hl).fail oF (fun a k q => by unfold SP at q; omega) (kd := 1) (pl := tq b n r0.2.2) (by omega)
        refine ⟨_, G1.flt f1, Or.inr ⟨Ma, Mb, e1, hWa, h30, oB hend, hWb, ?_⟩⟩
        rw [o29]
        exact (rx_fails hWb (k + 181) 1 (nI (tq b n r0.2.2))).1 g30
      · have q : (if tq b n r0.2.2 = n then Sum.inr (r0.1, r0.2.1) else Sum.inl (1, tq b n r0.2.2)) = Sum.inr r := q
        rw [if_neg hend] at q
        cases q
end RRZ
