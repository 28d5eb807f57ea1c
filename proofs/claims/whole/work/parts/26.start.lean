/-! THE START -/
theorem c_inst : ∀ ci, ci < 12 → Cond.instantiable (cNm ci) (cN ci) ∈ TT := fun ci h => match ci, h with
  | 0, _ => it_X0
  | 1, _ => it_X1
  | 2, _ => it_X2
  | 3, _ => it_X3
  | 4, _ => it_X4
  | 5, _ => it_X5
  | 6, _ => it_X6
  | 7, _ => it_X7
  | 8, _ => it_X8
  | 9, _ => it_X9
  | 10, _ => it_X10
  | 11, _ => it_X11
  | ci + 12, h => absurd h (by omega)
theorem st_arr {s : State} {args : Array Value} {ty : FieldType} (h : (Cond.arrayClass ty).before args s = true) (hp : ∀ C, ty ≠ .object C) : ∃ c : ClassId, ArrOfT s c ty ∧ va_RA s c ty := by
  obtain ⟨c, kA, comp, h1, h2, h3⟩ := Cond.arrayClass_spec h
  refine ⟨c, fun n z => ⟨fun k h => (by cases h), kA, h2, comp, h3⟩, ?_⟩
  cases ty <;> first | exact h1 | exact absurd rfl (hp _)
theorem st_K {s : State} {args : Array Value} (hts : ∀ w ∈ TT, w.before args s = true) (hao : va_AO RX9 s) : ∃ (D : va_G) (cy : Nat → ClassId), va_K D vwCl (tyL cy) s := by
  have hc : ∀ ci, ∃ q : ClassId × (Nat → Nat), ci < 12 → u_Kn s (cNm ci) (cT ci) (cN ci) q.1 q.2 := by
    intro ci
    by_cases h : ci < 12
    · obtain ⟨cC, iS, hk⟩ := u_known (C := cNm ci) (T := cT ci) (N := cN ci) (n := cN ci) hts (c_in ci h) (hts _ (c_inst ci h))
      exact ⟨(cC, iS), fun _ => hk⟩
    · exact ⟨(0, fun _ => 0), fun q => absurd q h⟩
  obtain ⟨fq, hfq⟩ := Classical.axiomOfChoice hc
  obtain ⟨c0, a0, r0⟩ := st_arr (hts _ ay_byte) (fun C h => by cases h)
  obtain ⟨c1, a1, r1⟩ := st_arr (hts _ ay_int) (fun C h => by cases h)
  obtain ⟨c2, a2, r2⟩ := st_arr (hts _ ay_long) (fun C h => by cases h)
  obtain ⟨comp, c4, k4, h1, h2, h3, h4, h5⟩ := Cond.arrayOver_spec hao
  refine ⟨(fun k => (fq k).1, fun k => (fq k).2), fun t => if t = 0 then c0 else if t = 1 then c1 else if t = 2 then c2 else if t = 3 then c1 else c4, fun c q hq => ?_, fun k q hk => ?_⟩
  · have hlt : c < 12 := (List.getElem?_eq_some_iff.mp hq).1
    rw [c_get c hlt] at hq
    cases hq
    exact hfq c hlt
  · have hlt : k < 5 := (List.getElem?_eq_some_iff.mp hk).1
    match k, hlt, hk with
    | 0, _, hk => cases hk; exact ⟨a0, r0⟩
    | 1, _, hk => cases hk; exact ⟨a1, r1⟩
    | 2, _, hk => cases hk; exact ⟨a2, r2⟩
    | 3, _, hk => cases hk; exact ⟨a1, r1⟩
    | 4, _, hk => cases hk; exact ⟨fun n z => ⟨fun k h => (by cases h), k4, h3, comp, h4⟩, k4, comp, h3, h4, h1, h5⟩
abbrev gvn : Cond := Jvm.Cond.and given_1 narrow_1
theorem fm_wl : ∀ j, j < 22 → Cond.eq (.elem (.static "ProofTrim" "WORD_LENGTHS" "[I") (.int (Int32.ofNat j))) (.int (wlF j)) ∈ flatC gvn := by decide +kernel
theorem fm_ar : ∀ j, j < 11 → Cond.eq (.elem (.static "ProofTrim" "ARITIES" "[I") (.int (Int32.ofNat j))) (.int (arF j)) ∈ flatC gvn := by decide +kernel
theorem fm_ap : ∀ j, j < 6 → Cond.eq (.elem (.static "ProofTrim$Parts" "ATOM_PATTERNS" "[J") (.int (Int32.ofNat j))) (.long (apF j)) ∈ flatC gvn := by decide +kernel
theorem fm_ta : ∀ j, j < 110 → Cond.eq (.elem (.field (.string "ProofTrim" 342) "java/lang/String" "value" "[B") (.int (Int32.ofNat j))) (.int (tbA.getD j 0)) ∈ flatC gvn := by decide +kernel
theorem fm_tb : ∀ j, j < 74 → Cond.eq (.elem (.field (.string "ProofTrimModel" 187) "java/lang/String" "value" "[B") (.int (Int32.ofNat j))) (.int (tbB.getD j 0)) ∈ flatC gvn := by decide +kernel
set_option maxHeartbeats 4000000 in
set_option maxRecDepth 100000 in
theorem st_Ex {s : State} {b L : Nat} {xs : Nat → Int32} (hts : ∀ w ∈ lw_tbl, w.before #[Value.ref b] s = true) (hX : va_X b L xs s s.heap) (hbl : b < s.heap.size) (hgv : gvn.before #[Value.ref b] s = true) : ∃ sp : Nat → Nat, sp 0 = b ∧ Ex (L, xs) s.heap.size sp s s.heap := by
  have hs := flat_of_before _ hgv
  have hA : ∀ a : Nat, a < s.heap.size → ¬ s.heap.size ≤ a := fun a h => Nat.not_le.mpr h
  obtain ⟨t1, e1, T1⟩ := va_Tof (A := fun q => s.heap.size ≤ q) (tm := .static "ProofTrim" "WORD_LENGTHS" "[I") (ty := .int) (N := 22) (f := fun j => .int (wlF j)) (by decide) (hs _ (by decide +kernel)) (va_eqt (hs (Cond.eq (.length (.static "ProofTrim" "WORD_LENGTHS" "[I")) (.int 22)) (by decide +kernel))) (fun j hj => va_eqt (hs _ (fm_wl j hj))) hA
  have Z1 := va_Zref (A := fun q => s.heap.size ≤ q) (hts _ (List.mem_append_right _ (tm1 (List.mem_of_getElem? (i := 37) rfl)))) (hts _ (List.mem_append_right _ (tm1 (List.mem_of_getElem? (i := 1) rfl)))) e1 hA
  obtain ⟨t2, e2, T2⟩ := va_Tof (A := fun q => s.heap.size ≤ q) (tm := .static "ProofTrim" "ARITIES" "[I") (ty := .int) (N := 11) (f := fun j => .int (arF j)) (by decide) (hs _ (by decide +kernel)) (va_eqt (hs (Cond.eq (.length (.static "ProofTrim" "ARITIES" "[I")) (.int 11)) (by decide +kernel))) (fun j hj => va_eqt (hs _ (fm_ar j hj))) hA
  have Z2 := va_Zref (A := fun q => s.heap.size ≤ q) (hts _ (List.mem_append_right _ (tm3 (List.mem_of_getElem? (i := 185) rfl)))) (hts _ (List.mem_append_right _ (tm1 (List.mem_of_getElem? (i := 1) rfl)))) e2 hA
  obtain ⟨t3, e3, T3⟩ := va_Tof (A := fun q => s.heap.size ≤ q) (tm := .static "ProofTrim$Parts" "ATOM_PATTERNS" "[J") (ty := .long) (N := 6) (f := fun j => .long (apF j)) (by decide) (hs _ (by decide +kernel)) (va_eqt (hs (Cond.eq (.length (.static "ProofTrim$Parts" "ATOM_PATTERNS" "[J")) (.int 6)) (by decide +kernel))) (fun j hj => va_eqtl (hs _ (fm_ap j hj))) hA
  have Z3 := va_Zref (A := fun q => s.heap.size ≤ q) (hts _ (List.mem_append_right _ (tm6 (List.mem_of_getElem? (i := 31) rfl)))) (hts _ (List.mem_append_right _ (tm1 (List.mem_of_getElem? (i := 14) rfl)))) e3 hA
  have ZC := va_Zof (A := fun q => s.heap.size ≤ q) (hts _ (List.mem_append_right _ (tm1 (List.mem_of_getElem? (i := 114) rfl)))) (hts _ (List.mem_append_right _ (tm1 (List.mem_of_getElem? (i := 5) rfl)))) (va_eqt (hs (Cond.eq (.static "java/lang/String" "COMPACT_STRINGS" "Z") (.int 1)) (by decide +kernel))) hA
  have ZF := va_Zqof (A := fun q => s.heap.size ≤ q) (hts _ (List.mem_append_right _ (tm1 (List.mem_of_getElem? (i := 122) rfl)))) (hts _ (List.mem_append_right _ (tm1 (List.mem_of_getElem? (i := 7) rfl)))) (hs (Cond.isRef (.static "jdk/internal/util/Preconditions" "SIOOBE_FORMATTER" "Ljava/util/function/BiFunction;")) (by decide +kernel)) hA
  obtain ⟨adK, adV, hk, hev⟩ := vk_Sof (A := fun q => s.heap.size ≤ q) (N := 2) (tm := fun i => match i with | 0 => .string "ProofTrim" 342 | _ => .string "ProofTrimModel" 187) (len := [110, 74]) (byt := [tbA, tbB]) (fun i hi => match i, hi with | 0, _ => by decide | 1, _ => by decide) (fun i hi => match i, hi with | 0, _ => hs _ (by decide +kernel) | 1, _ => hs _ (by decide +kernel)) (fun i hi => match i, hi with | 0, _ => hs _ (by decide +kernel) | 1, _ => hs _ (by decide +kernel)) (fun i hi => match i, hi with | 0, _ => hs _ (by decide +kernel) | 1, _ => hs _ (by decide +kernel)) (fun i hi => match i, hi with | 0, _ => hs _ (by decide +kernel) | 1, _ => hs _ (by decide +kernel)) (fun i hi j hj => match i, hi, hj with | 0, _, hj => hs _ (fm_ta j hj) | 1, _, hj => hs _ (fm_tb j hj)) (fun i j hi hj hij => match i, j, hi, hj, hij with | 0, 0, _, _, h => absurd rfl h | 0, 1, _, _, _ => Or.inl (hs _ (by decide +kernel)) | 1, 0, _, _, _ => Or.inr (hs _ (by decide +kernel)) | 1, 1, _, _, h => absurd rfl h) hA
  obtain ⟨tF, hF⟩ : ∃ tF : Nat, va_Z RJ3 "SIOOBE_FORMATTER" "Ljava/util/function/BiFunction;" .null (fun q => s.heap.size ≤ q) s s.heap ∨ va_Z RJ3 "SIOOBE_FORMATTER" "Ljava/util/function/BiFunction;" (.ref tF) (fun q => s.heap.size ≤ q) s s.heap := by
    rcases ZF with h | ⟨t, h⟩
    · exact ⟨0, Or.inl h⟩
    · exact ⟨t, Or.inr h⟩
  refine ⟨fun k => match k with | 0 => b | 1 => t1 | 2 => t2 | 3 => t3 | 4 => adK 0 | 5 => adK 1 | 6 => adV 0 | 7 => adV 1 | _ => tF, rfl, fun w hw => ?_, ⟨Z1, T1⟩, ⟨Z2, T2⟩, ⟨Z3, T3⟩, ⟨vk_R.of (hts _ (List.mem_append_right _ (tm1 (List.mem_of_getElem? (i := 104) rfl)))) (hev 0 (by decide)), vk_R.of (hts _ (List.mem_append_right _ (tm7 (List.mem_of_getElem? (i := 46) rfl)))) (hev 1 (by decide))⟩, ⟨fun i hi => ?_, fun i j hi hj e => ?_⟩, ZC, hF, ⟨hX, hbl⟩, va_AO.of (hts _ (List.mem_append_right _ (tm1 (List.mem_of_getElem? (i := 210) rfl))))⟩
  · have h1 := hts w (List.mem_append_right _ (List.mem_filter.mp hw).1)
    have h2 := (List.mem_filter.mp hw).2
    cases w <;> first | exact va_Nw.of rfl h1 | (exact absurd h2 (by simp [isNest]))
  · match i, hi with
    | 0, _ => exact hk.1 0 (by decide)
    | 1, _ => exact hk.1 1 (by decide)
  · match i, j, hi, hj, e with
    | 0, 0, _, _, _ => rfl
    | 0, 1, _, _, e => exact hk.2 0 1 (by decide) (by decide) e
    | 1, 0, _, _, e => exact hk.2 1 0 (by decide) (by decide) e
    | 1, 1, _, _, _ => rfl
