/-! THE INVARIANT over calls: lines, line, lineByte -/
section JL4
variable {M M1 M2 : Mem} {c cR cr : Nat} {b : Nat → Nat} {L : Nat} {H : List (Nat × Fm)} {gf : Fm} {T : Nat → Option Tm} {ks : List Nat} {k : Nat} {tl : Nat → Fm}
theorem OkF.ptc {CI : Fm → Prop} (hC : Cls CI) : PtC (OkF CI) := fun a b => ⟨fun q => OkF.pt hC 9 a b (by omega) (by omega) q, fun q => OkF.pt hC 10 a b (by omega) (by omega) q, fun q => OkF.pt hC 11 a b (by omega) (by omega) q⟩
theorem PtC.and {P Q : Fm → Prop} (h1 : PtC P) (h2 : PtC Q) : PtC (fun f => P f ∧ Q f) := fun a b => ⟨fun q => ⟨⟨((h1 a b).1 q.1).1, ((h2 a b).1 q.2).1⟩, ((h1 a b).1 q.1).2, ((h2 a b).1 q.2).2⟩, fun q => ⟨⟨((h1 a b).2.1 q.1).1, ((h2 a b).2.1 q.2).1⟩, ((h1 a b).2.1 q.1).2, ((h2 a b).2.1 q.2).2⟩, fun q => ⟨⟨((h1 a b).2.2 q.1).1, ((h2 a b).2.2 q.2).1⟩, ((h1 a b).2.2 q.1).2, ((h2 a b).2.2 q.2).2⟩⟩
/-- what the lines say -/
theorem lnA_ok (hT : TabC M c) (hP : JnP (Inn M c) H gf T) {s : Nat} {t : Tm} (hs : s < 4) (hTs : T s = some t) {x : Fm} (hw : Wc (OkF (Inn M c)) H.length (hF H) t 0 gN 0 x) (htl : Wt (fun i y => tl i = y) H.length (hF H) t 0 gN 0 x) : ∀ e, e ∈ lnA H tl t → OkF (Inn M c) e.2.1 ∧ blen e.2.1 ≤ 4700030000 := by
  have hC := Inn_cls hT
  obtain ⟨ht, -, -⟩ := hP.2.2 s t hs hTs
  obtain ⟨hL, y, hy, -⟩ := hP.2.1.2 s t hs hTs
  cases Wt.fn t ht hy hw
  have hlab := lab_ok (OkF.pt hC) t ht hw
  refine lnF_P (P := fun f => OkF (Inn M c) f ∧ blen f ≤ 4700030000) (PtC.and (OkF.ptc hC) (blB_pt 4700030000)) tl t ht 0 0 _ _ (fun nd hm ho => ⟨hlab nd hm ho, by have : blen nd.2 ≤ 30000 := hL nd hm ho; omega⟩) (fun i h1 h2 => ?_) (fun e he => ?_)
  · obtain ⟨z, ⟨g1, g2⟩, g3⟩ := (Wt.and t ht (Wt.and t ht hw hy) htl).all t ht i h1 h2
    rw [g3]
    exact ⟨g1, g2⟩
  · unfold hln at he
    obtain ⟨z, hz, ez⟩ := List.mem_map.mp he
    obtain ⟨p1, p2, -⟩ := hP.1 z hz
    have := Inn.m210 hT p1.1 p2
    rw [← ez]
    exact ⟨p1, by show blen z.2 ≤ _; omega⟩
theorem jn_lk {f g : Mem → Option (Int32 × Mem)} {v : Int32} (hb : 1240 * c + 601 * L ≤ 12020 * k + 11160) (hm : MkC k M) (hC : ClA M c b L H gf T ks) (hE : FlE M) (e1 : f M = some (v, M1)) (F1 : Fq SNm M M1) (C1 : ClS M1 c H gf T) (hR1 : RfA M1 cR b L H gf T ks (Inn M1 c)) (hP' : JnP (Inn M1 c) H gf T) (e2 : g M1 = some (v, M2)) (F2 : Fr (fun a k => SLl a k ∨ SBg a k) M1 M2) (R2 : RfS M2 cr H gf T (Inn M1 c) 8191) (W2 : WkG M2 cr (Inn M1 c) 0) : Pr2 (Jn (k + 1)) f g M :=
  jn_keep hb hm hC hE e1 F1 (fun a k q => by unfold SNm SAg S6q S67 at q; omega) C1 hR1 hP' e2 F2 (fun a k q => by unfold SLl SLr SSi SNz SSu SSq SSp SR STd STr SBg at q; omega) ((F2.int (by unfold SLl SLr SSi SNz SSu SSq SSp SR STd STr SBg; omega)).trans hR1.2.2.2.2) R2 (by omega) W2 (by omega)
set_option maxHeartbeats 1000000 in
theorem j_lnS (h : Jn k M) (x1 x2 x3 : Int32) : Pr2 (Jn (k + 1)) (f_X10_lines 2047 0 x1) (f_X11_lines 2047 89 x1) M ∧ Pr2 (Jn (k + 1)) (f_X10_line 2047 0 x1 x2 x3) (f_X11_line 2047 89 x1 x2 x3) M ∧ Pr2 (Jn (k + 1)) (f_X10_lineByte 2047 0 x1 x2 x3) (f_X11_lineByte 2047 89 x1 x2 x3) M := by
  obtain ⟨c, cR, b, L, H, gf, T, ks, hC, hR, hP, hE, hb, hm⟩ := h
  have hCl := Inn_cls hC.1.2.2.1
  have hW := hC.1.1
  rcases slot_cases x1 with ⟨s, hs, hx1⟩ | hn1
  · rcases none_or (T s) with hNo | ⟨t, hT⟩
    · obtain ⟨-, a2⟩ := c_numberLines (tl := fun _ => .null) hC.1 2042 x1
      obtain ⟨-, r2⟩ := rx_lnS (tl := fun _ => .null) hR.1 (hP.ok hCl) (by omega) hR.2.2.2.2 1640 x1
      obtain ⟨b1, b2, b3⟩ := c_lineN (n := 2045) hW x2 x3 (v := -5) (by decide) ((a2 s hs hx1).1 hNo)
      obtain ⟨q1, q2, q3⟩ := (r2 s hs hx1).1 hNo x2 x3
      exact ⟨jn_ans hb hm hC hR hP hE b3 q1, jn_ans hb hm hC hR hP hE b1 q2, jn_ans hb hm hC hR hP hE b2 q3⟩
    · obtain ⟨ht, hz, x, hw⟩ := hP.2.2 s t hs hT
      obtain ⟨tl, wtl⟩ := Wt.fun t ht hw
      have htl : Wt (fun i y => tl i = y) H.length (hF H) t 0 gN 0 x := wtl.imp t ht (fun i y _ _ g => g.2)
      obtain ⟨-, a2⟩ := c_numberLines (tl := tl) hC.1 2042 x1
      obtain ⟨M1, e1, F1, C1, N1⟩ := (a2 s hs hx1).2 t x hT ht (Wc.inn ht hw) htl
      have hS1 : ∀ a k, SNm a k → 10 ≤ a ∧ a < 89 := fun a k q => by unfold SNm SAg S6q S67 at q; omega
      obtain ⟨hR1, hP1, hCl1⟩ := jn_ref hC hR hP F1 hS1
      have hw1 : Wc (OkF (Inn M1 c)) H.length (hF H) t 0 gN 0 x := hw.imp t ht (fun i z _ _ q => q.ci (Inn.cls F1 (fun a k q => (hS1 _ _ q).1)))
      have hok := lnA_ok C1.2.2.1 hP1 hs hT hw1 htl
      obtain ⟨-, r2⟩ := rx_lnS (tl := tl) hR1.1 (hP1.ok hCl1) (by omega) hR1.2.2.2.2 1640 x1
      obtain ⟨M2, cr, F2, R2, W2, q1, q2, q3, q4, q5, q6⟩ := (r2 s hs hx1).2 t x hT hw1 htl
      have F2' : Fr (fun a k => SLl a k ∨ SBg a k) M1 M2 := F2.mono (fun a k q => Or.inl q)
      have hW1 := C1.1
      have hl := N1.2.1
      refine ⟨?_, ?_, ?_⟩
      · exact jn_lk hb hm hC hE (c_linesA (n := 2045) hW e1 hW1 N1) F1 C1 hR1 hP1 q1 F2' R2 W2
      · by_cases hx : (∀ j, j < (lnA H tl t).length → x2 ≠ nI j) ∨ ∀ j, j ≤ 4 → x3 ≠ nI j
        · exact jn_lk hb hm hC hE (c_lineA (n := 2045) hW e1 hW1 N1 hx) F1 C1 hR1 hP1 (q2 x2 x3 hx) F2' R2 W2
        · obtain ⟨j, hj, ej⟩ : ∃ j, j < (lnA H tl t).length ∧ x2 = nI j := Classical.byContradiction (fun q => hx (Or.inl (fun j hj e => q ⟨j, hj, e⟩)))
          obtain ⟨w, hw4, ew⟩ : ∃ j, j ≤ 4 ∧ x3 = nI j := Classical.byContradiction (fun q => hx (Or.inr (fun j hj e => q ⟨j, hj, e⟩)))
          subst ej ew
          exact jn_lk hb hm hC hE (c_lineB (n := 2045) hW e1 hW1 N1 hj hw4) F1 C1 hR1 hP1 (q3 j w hj hw4) F2' R2 W2
      · obtain ⟨d1, d2⟩ := c_lbA (n := 2045) (x2 := x2) (x3 := x3) hW e1 hW1 N1
        rcases in_len (x := x2) (n := (lnA H tl t).length) (by omega) with ⟨j, hj, ej⟩ | ⟨hno, -⟩
        · obtain ⟨d3, d4⟩ := d2 j hj ej
          subst ej
          by_cases h3 : 0 ≤ x3
          · obtain ⟨q, hq, hx3⟩ := ge_nI h3
            obtain ⟨en, hen⟩ : ∃ en, (lnA H tl t)[j]? = some en := ⟨_, List.getElem?_eq_getElem hj⟩
            obtain ⟨o1, o2⟩ := hok en (List.mem_of_getElem? hen)
            obtain ⟨M3, y3, F3⟩ := q6 j q en hq hen o1.2 (by omega)
            have d5 := d4 q en hq hx3 hen C1.2.2.1 (by omega) (by omega)
            subst hx3
            have F23 : Fr (fun a k => SLl a k ∨ SBg a k) M1 M3 := F2'.trans (F3.mono (fun a k q => Or.inr q))
            obtain ⟨-, dd⟩ := tabR_mv R2.2.1 F3 (by unfold SBg; omega) (fun a k q => by unfold SBg at q; omega)
            exact jn_lk hb hm hC hE d5 F1 C1 hR1 hP1 y3 F23 (R2.w F3 (fun a k q => by unfold SBg at q; omega)) (W2.mv F3 (fun a k q => by unfold SBg at q; omega) (fun i _ => dd i) (Nat.le_refl _))
          · exact jn_lk hb hm hC hE (d3 h3) F1 C1 hR1 hP1 (q5 j x3 hj h3) F2' R2 W2
        · exact jn_lk hb hm hC hE (d1 hno) F1 C1 hR1 hP1 (q4 x2 x3 hno) F2' R2 W2
  · obtain ⟨a1, -⟩ := c_numberLines (tl := fun _ => .null) hC.1 2042 x1
    obtain ⟨r1, -⟩ := rx_lnS (tl := fun _ => .null) hR.1 (hP.ok hCl) (by omega) hR.2.2.2.2 1640 x1
    obtain ⟨b1, b2, b3⟩ := c_lineN (n := 2045) hW x2 x3 (v := -2) (by decide) (a1 hn1)
    obtain ⟨q1, q2, q3⟩ := r1 hn1 x2 x3
    exact ⟨jn_ans hb hm hC hR hP hE b3 q1, jn_ans hb hm hC hR hP hE b1 q2, jn_ans hb hm hC hR hP hE b2 q3⟩
theorem j_lines (h : Jn k M) (x : Int32) : Pr2 (Jn (k + 1)) (f_X10_lines 2047 0 x) (f_X11_lines 2047 89 x) M := (j_lnS h x 0 0).1
theorem j_line (h : Jn k M) (x1 x2 x3 : Int32) : Pr2 (Jn (k + 1)) (f_X10_line 2047 0 x1 x2 x3) (f_X11_line 2047 89 x1 x2 x3) M := (j_lnS h x1 x2 x3).2.1
theorem j_lineByte (h : Jn k M) (x1 x2 x3 : Int32) : Pr2 (Jn (k + 1)) (f_X10_lineByte 2047 0 x1 x2 x3) (f_X11_lineByte 2047 89 x1 x2 x3) M := (j_lnS h x1 x2 x3).2.2
end JL4
