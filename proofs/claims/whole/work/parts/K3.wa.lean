/-! WORDS in all: not more parts than words -/
def hws : List (Nat × Fm) → Nat
  | [] => 0
  | x :: l => wdf x.2 + hws l
theorem hws_len : ∀ (H : List (Nat × Fm)), (hpl H).length = hws H := by
  intro H
  induction H with
  | nil => rfl
  | cons x H ih =>
    show (prl x.2 ++ hpl H).length = wdf x.2 + hws H
    rw [List.length_append, prl_len, ih]
theorem hws_app : ∀ (A B : List (Nat × Fm)), hws (A ++ B) = hws A + hws B := by
  intro A B
  induction A with
  | nil => exact (Nat.zero_add _).symm
  | cons x A ih =>
    show wdf x.2 + hws (A ++ B) = wdf x.2 + hws A + hws B
    rw [ih, Nat.add_assoc]
theorem hws_le : ∀ (H : List (Nat × Fm)), (∀ x, x ∈ H → wdf x.2 ≤ 60) → hws H ≤ 60 * H.length := fun H h => by
  rw [← hws_len]
  exact hpl_len H h
theorem parts_w {M : Mem} {c : Nat} (hT : TabC M c) {H : List (Nat × Fm)} {gf : Fm} : cP (fun v => StF H gf (dC M v)) c ≤ wdf gf + hws H := by
  have hlen : (prl gf ++ hpl H).length = wdf gf + hws H := by rw [List.length_append, prl_len, hws_len]
  have ch : ∀ i, ∃ j, i < cP (fun v => StF H gf (dC M v)) c → j < (prl gf ++ hpl H).length ∧ ∃ v, v < c ∧ StF H gf (dC M v) ∧ cP (fun v => StF H gf (dC M v)) v = i ∧ (prl gf ++ hpl H)[j]? = some (dC M v) := by
    intro i
    by_cases hi : i < cP (fun v => StF H gf (dC M v)) c
    · obtain ⟨v, v1, v2, v3⟩ := cP_inv c i hi
      have hmem : dC M v ∈ prl gf ++ hpl H := by
        rcases v2 with g | ⟨j, hj, g⟩
        · exact List.mem_append_left _ (prl_mem _ g)
        · exact List.mem_append_right _ (hpl_mem H _ (List.getElem_mem hj) g)
      obtain ⟨j, hj, ej⟩ := List.getElem_of_mem hmem
      exact ⟨j, fun _ => ⟨hj, v, v1, v2, v3, by rw [List.getElem?_eq_getElem hj, ej]⟩⟩
    · exact ⟨0, fun q => absurd q hi⟩
  obtain ⟨g, hg2⟩ := Classical.axiomOfChoice ch
  have := php (prl gf ++ hpl H).length (cP (fun v => StF H gf (dC M v)) c) g (fun i hi => (hg2 i hi).1) (fun i j hi hj e => by
    obtain ⟨-, v, v1, v2, v3, v4⟩ := hg2 i hi
    obtain ⟨-, u, u1, u2, u3, u4⟩ := hg2 j hj
    rw [e, u4] at v4
    have := hT.inj u1 v1 (Option.some.inj v4)
    subst this
    rw [← v3, ← u3])
  omega
section WA3
variable {M : Mem} {c n : Nat} {H : List (Nat × Fm)}
theorem wa_4 (hW : Wd M) (hH : HyC M 10 c H) : ∀ z j, j + z = H.length → lp (st_X2_wordsInAll n) (4, [.ref 10, .int (nI (hws (H.take j))), .int (nI j)], M) = some (nI (hws H), M) := by
  have h6 := hH.2.1
  have hO : fO M 10 2 := ⟨by rw [hW.1]; omega, s_10 hW⟩
  intro z
  induction z with
  | zero =>
    intro j hj
    rw [List.take_of_length_le (by omega)]
    refine (ge_X2_wordsInAll_4 n 10 (nI (hws H)) (nI j) M).trans ?_
    unfold T_X2_wordsInAll_4
    have hle : (nI H.length ≤ nI j) = True := eq_true (by rw [nI_le_ (by omega) (by omega)]; omega)
    simp only [↓gd_pos hO, hH.1, hle, ↓reduceIte]
  | succ z ih =>
    intro j hj
    obtain ⟨v, v1, v2, v3, v4, v5, -⟩ := hH.2.2 j (by omega)
    have v5 : M.2.2.1 13 j = nI (wdf H[j].2) := v5
    have hA : fA M 13 1 (nI j) := fA_C hW (by omega) (s_13 hW) (show j < 6 by omega) (by omega)
    have y := ih (j + 1) (by omega)
    rw [← y]
    refine (ge_X2_wordsInAll_4 n 10 (nI (hws (H.take j))) (nI j) M).trans ?_
    unfold T_X2_wordsInAll_4
    have hle : (nI H.length ≤ nI j) = False := eq_false (by rw [nI_le_ (by omega) (by omega)]; omega)
    have h6' : ((6 : Int32) ≤ nI j) = False := eq_false (by rw [show (6 : Int32) = nI 6 from rfl, nI_le_ (by omega) (by omega)]; omega)
    have es : hws (H.take (j + 1)) = hws (H.take j) + wdf H[j].2 := by
      rw [List.take_succ_eq_append_getElem (by omega), hws_app]
      rfl
    have ea : nI (hws (H.take j)) + nI (wdf H[j].2) = nI (hws (H.take j) + wdf H[j].2) := (Int32.ofNat_add _ _).symm
    simp (disch := omega) only [↓gd_pos hO, hH.1, hle, h6', ↓reduceIte, ↓bnd_of (r_10_2 hW), ↓gd_pos hA, nI_z, v5, ea, nI_1]
    rw [es]
theorem c_wordsInAll (hW : Wd M) (hH : HyC M 10 c H) (n : Nat) : f_X2_wordsInAll n 10 M = some (nI (hws H), M) := (ge_X2_wordsInAll_0 n 10 M).trans (wa_4 hW hH H.length 0 (by omega))
end WA3
