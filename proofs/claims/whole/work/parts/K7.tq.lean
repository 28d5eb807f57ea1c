/-! THE DECIDER in the class: takeParts, the loop -/
section TQ7
variable {M M0 M1 : Mem} {m n : Nat} {kd lf rt : Nat → Nat}
/-- rows taken so far -/
def DcI (M : Mem) (m : Nat) (kd lf rt : Nat → Nat) (i : Nat) : Prop := M.2.2.1 80 7 = nI m ∧ (∀ j, j < i → M.2.2.1 81 j = nI (kd j) ∧ (9 ≤ kd j → M.2.2.2.1 82 j = bt (lf j) ∧ M.2.2.2.1 83 j = bt (rt j)) ∧ (kd j < 9 → M.2.2.2.1 82 j = 0 ∧ M.2.2.2.1 83 j = 0)) ∧ ∀ j, b64 (M.2.2.2.1 80 9) j = true ↔ j < i ∧ kd j = 8
set_option maxHeartbeats 1000000 in
theorem tp_one (hW : Wd M) (hT : TkP M m kd lf rt) (h3 : ∀ i j, i < m → j < m → kd i = kd j → kd i < 9 → i = j) {i : Nat} (hi : i < m) (hD : DcI M m kd lf rt i) : ∃ M1, lp (st_X0_takeParts (n + 1)) (23, [.ref 80, .int (nI i)], M) = lp (st_X0_takeParts (n + 1)) (23, [.ref 80, .int (nI (i + 1))], M1) ∧ Fr S81 M M1 ∧ DcI M1 m kd lf rt (i + 1) := by
  have h40 := hT.2.1
  have k2 := (hT.2.2 i hi).2.1
  obtain ⟨d1, d2, d3⟩ := hD
  obtain ⟨L, hL⟩ : ∃ L, L = (if 9 ≤ kd i then bt (lf i) else 0) := ⟨_, rfl⟩
  obtain ⟨R, hR⟩ : ∃ R, R = (if 9 ≤ kd i then bt (rt i) else 0) := ⟨_, rfl⟩
  obtain ⟨Ma, hMa⟩ : ∃ Ma, Ma = wI M 81 i (nI (kd i)) := ⟨_, rfl⟩
  obtain ⟨Mb, hMb⟩ : ∃ Mb, Mb = wJ Ma 82 i L := ⟨_, rfl⟩
  obtain ⟨Mc, hMc⟩ : ∃ Mc, Mc = wJ Mb 83 i R := ⟨_, rfl⟩
  have Fa : Fr (fun a k => a = 81 ∧ k = i) M Ma := by rw [hMa]; exact Fr.refl.wI ⟨rfl, rfl⟩ _
  have Fb : Fr (fun a k => a = 82 ∧ k = i) Ma Mb := by rw [hMb]; exact Fr.refl.wJ ⟨rfl, rfl⟩ _
  have Fc : Fr (fun a k => a = 83 ∧ k = i) Mb Mc := by rw [hMc]; exact Fr.refl.wJ ⟨rfl, rfl⟩ _
  have va : Ma.2.2.1 81 i = nI (kd i) := by rw [hMa]; simp [up2_if]
  have vb : Mb.2.2.1 81 i = nI (kd i) := (Fb.int (by omega)).trans va
  have vL : Mb.2.2.2.1 82 i = L := by rw [hMb]; simp [up2_if]
  have vR : Mc.2.2.2.1 83 i = R := by rw [hMc]; simp [up2_if]
  have e1 := tp_23 (n := n) hW hT d1 hi
  rw [← hL, ← hMa] at e1
  have Ta : TkP Ma m kd lf rt := hT.fr (Fa.mono (fun a k q => by unfold S81; omega))
  have e2 := tp_76 (n := n) (Fa.Wd hW) Ta hi va L
  rw [← hR, ← hMb] at e2
  have hWb := Fb.Wd (Fa.Wd hW)
  have e3 := tp_108 (n := n) hWb (show i < 40 by omega) k2 vb R
  rw [← hMc] at e3
  have Fabc : Fr (fun a k => (a = 81 ∨ a = 82 ∨ a = 83) ∧ k = i) M Mc := ((Fa.mono (fun a k q => by omega)).trans (Fb.mono (fun a k q => by omega))).trans (Fc.mono (fun a k q => by omega))
  have rows : ∀ j, j < i + 1 → Mc.2.2.1 81 j = nI (kd j) ∧ (9 ≤ kd j → Mc.2.2.2.1 82 j = bt (lf j) ∧ Mc.2.2.2.1 83 j = bt (rt j)) ∧ (kd j < 9 → Mc.2.2.2.1 82 j = 0 ∧ Mc.2.2.2.1 83 j = 0) := fun j hj => by
    by_cases e : j = i
    · subst e
      rw [Fc.int (by omega), vb, vR, Fc.lng (a := 82) (by omega), vL, hL, hR]
      exact ⟨rfl, fun q => by rw [if_pos q, if_pos q]; exact ⟨rfl, rfl⟩, fun q => by rw [if_neg (by omega), if_neg (by omega)]; exact ⟨rfl, rfl⟩⟩
    · rw [Fabc.int (by omega), Fabc.lng (a := 82) (by omega), Fabc.lng (a := 83) (by omega)]
      exact d2 j (by omega)
  have h8c : Mc.2.2.1 80 7 = nI m := (Fabc.int (by omega)).trans d1
  have hno : Mc.2.2.2.1 80 9 = M.2.2.2.1 80 9 := Fabc.lng (by omega)
  by_cases e8 : kd i = 8
  · rw [if_pos e8] at e3
    have Fd : Fr (fun a k => a = 80 ∧ k = 9) Mc (wJ Mc 80 9 (bt i)) := Fr.refl.wJ ⟨rfl, rfl⟩ _
    refine ⟨_, e1.trans (e2.trans e3), (Fabc.mono (fun a k q => by unfold S81; omega)).trans (Fd.mono (fun a k q => by unfold S81; omega)), h8c, fun j hj => ?_, fun j => ?_⟩
    · rw [Fd.lng (a := 82) (by omega), Fd.lng (a := 83) (by omega)]
      exact rows j hj
    · rw [show (wJ Mc 80 9 (bt i)).2.2.2.1 80 9 = bt i by simp [up2_if], bt_mem (show i < 40 by omega)]
      exact ⟨fun q => by rw [← q]; exact ⟨by omega, e8⟩, fun q => h3 i j hi (by omega) (by rw [e8, q.2]) (by omega)⟩
  · rw [if_neg e8] at e3
    refine ⟨_, e1.trans (e2.trans e3), Fabc.mono (fun a k q => by unfold S81; omega), h8c, rows, fun j => ?_⟩
    rw [hno, d3]
    exact ⟨fun q => ⟨by omega, q.2⟩, fun q => ⟨by
      have : j ≠ i := fun z => e8 (by rw [← z]; exact q.2)
      omega, q.2⟩⟩
end TQ7
