/-! THE DECIDER in the class: findAsked -/
/-- larger, but only below a number -/
def Upk (k : Nat) (x y : Int64) : Prop := SbS x y ∧ ∀ j, k ≤ j → St y j → St x j
theorem Upk.refl {k : Nat} {x : Int64} : Upk k x x := ⟨SbS.refl, fun _ _ h => h⟩
theorem Upk.trans {k : Nat} {x y z : Int64} (h : Upk k x y) (q : Upk k y z) : Upk k x z := ⟨h.1.trans q.1, fun j hj r => h.2 j hj (q.2 j hj r)⟩
theorem Upk.or {k : Nat} {x y : Int64} (h : ∀ j, k ≤ j → b64 y j = false) : Upk k x (x ||| y) := ⟨SbS.or, fun j hj r => by
  have r : b64 (x ||| y) j = true := r
  rw [b64_or, h j hj, Bool.or_false] at r
  exact r⟩
theorem bt_no {l k : Nat} (h : l < k) (hl : l < 40) : ∀ j, k ≤ j → b64 (bt l) j = false := fun j hj => by
  rw [b64_bt hl]
  exact decide_eq_false (by omega)
theorem or_no {x y : Int64} {k : Nat} (h1 : ∀ j, k ≤ j → b64 x j = false) (h2 : ∀ j, k ≤ j → b64 y j = false) : ∀ j, k ≤ j → b64 (x ||| y) j = false := fun j hj => by rw [b64_or, h1 j hj, h2 j hj]; rfl
/-- asked and granted go down at a part -/
def AgC (kd lf rt : Nat → Nat) (a g : Int64) (i : Nat) : Prop := (kd i = 9 → (St a i → St a (rt i) ∧ St g (lf i)) ∧ (St g i → St g (rt i) ∧ St a (lf i))) ∧ ((kd i = 10 ∨ kd i = 11) → (St a i → St a (lf i) ∧ St a (rt i)) ∧ (St g i → St g (lf i) ∧ St g (rt i)))
section FQ2
variable {M M1 : Mem} {m n g : Nat} {kd lf rt : Nat → Nat}
theorem or_l {x : Int64} {l : Nat} (hl : l < 40) : St (x ||| bt l) l := by
  show b64 (x ||| bt l) l = true
  rw [b64_or, (bt_mem hl).mpr rfl, Bool.or_true]
theorem or_2 {x : Int64} {l r : Nat} (hl : l < 40) (hr : r < 40) : St (x ||| (bt l ||| bt r)) l ∧ St (x ||| (bt l ||| bt r)) r := by
  refine ⟨?_, ?_⟩
  · show b64 (x ||| (bt l ||| bt r)) l = true
    rw [b64_or, b64_or, (bt_mem hl).mpr rfl, Bool.true_or, Bool.or_true]
  · show b64 (x ||| (bt l ||| bt r)) r = true
    rw [b64_or, b64_or, (bt_mem hr).mpr rfl, Bool.or_true, Bool.or_true]
theorem fa_one (hW : Wd M) (hD : DcP M m kd lf rt) {i : Nat} (hi : i < m) (h11 : kd i ≤ 11) (hlt : 9 ≤ kd i → lf i < i ∧ rt i < i) (a g : Int64) : ∃ a2 g2, lp (st_X0_findAsked n) (16, [.ref 80, .long a, .long g, .int (nI i)], M) = lp (st_X0_findAsked n) (16, [.ref 80, .long a2, .long g2, .int (dnI i)], M) ∧ Upk i a a2 ∧ Upk i g g2 ∧ AgC kd lf rt a2 g2 i := by
  have h40 := hD.2.1
  obtain ⟨-, k2, k3⟩ := hD.2.2.1 i hi
  have z0 : ∀ j, i ≤ j → b64 (0 : Int64) j = false := fun j _ => b64_0 j
  have no : ∀ {x : Int64}, ¬ b64 x i = true → ¬ St x i := fun h => h
  by_cases h9 : 9 ≤ kd i
  · obtain ⟨l1, l2⟩ := hlt h9
    obtain ⟨v2, v3⟩ := k2 h9
    have nl := bt_no l1 (show lf i < 40 by omega)
    have nr := bt_no l2 (show rt i < 40 by omega)
    have e1 := (fa_16 (n := n) hW hD hi h11 a g).trans ((fa_38 (n := n) hW (show i < 40 by omega) v2 v3 a g _).trans (fa_105 (n := n) hW (show i < 40 by omega) v2 v3 _ _ _))
    by_cases e9 : kd i = 9
    · rw [decide_eq_true e9] at e1
      by_cases hA : b64 a i = true
      · simp only [hA, ↓reduceIte] at e1
        have ua : Upk i a (a ||| bt (rt i)) := Upk.or nr
        have ug : Upk i g (g ||| bt (lf i)) := Upk.or nl
        by_cases hG : b64 (g ||| bt (lf i)) i = true
        · simp only [hG, ↓reduceIte] at e1
          refine ⟨_, _, e1, ua.trans (Upk.or nl), ug.trans (Upk.or nr), fun _ => ⟨fun _ => ⟨SbS.or _ (or_l (by omega)), SbS.or _ (or_l (by omega))⟩, fun _ => ⟨or_l (by omega), or_l (by omega)⟩⟩, fun q => by omega⟩
        · have hG' : (b64 (g ||| bt (lf i)) i = true) = False := eq_false hG
          simp only [hG', ↓reduceIte] at e1
          refine ⟨_, _, e1, ua, ug, fun _ => ⟨fun _ => ⟨or_l (by omega), or_l (by omega)⟩, fun q => absurd q hG⟩, fun q => by omega⟩
      · have hA' : (b64 a i = true) = False := eq_false hA
        simp only [hA', ↓reduceIte] at e1
        by_cases hG : b64 g i = true
        · simp only [hG, ↓reduceIte] at e1
          refine ⟨_, _, e1, Upk.or nl, Upk.or nr, fun _ => ⟨fun q => absurd ((Upk.or nl).2 i (Nat.le_refl _) q) hA, fun _ => ⟨or_l (by omega), or_l (by omega)⟩⟩, fun q => by omega⟩
        · have hG' : (b64 g i = true) = False := eq_false hG
          simp only [hG', ↓reduceIte] at e1
          exact ⟨_, _, e1, Upk.refl, Upk.refl, fun _ => ⟨fun q => absurd q hA, fun q => absurd q hG⟩, fun q => by omega⟩
    · rw [decide_eq_false e9] at e1
      have nlr := or_no nl nr
      have o2 : ∀ x : Int64, St (x ||| (bt (lf i) ||| bt (rt i))) (lf i) ∧ St (x ||| (bt (lf i) ||| bt (rt i))) (rt i) := fun x => or_2 (by omega) (by omega)
      by_cases hA : b64 a i = true
      · simp only [hA, ↓reduceIte, Bool.false_eq_true] at e1
        have ua : Upk i a (a ||| (bt (lf i) ||| bt (rt i))) := Upk.or nlr
        have ug : Upk i g (g ||| 0) := Upk.or z0
        by_cases hG : b64 (g ||| 0) i = true
        · simp only [hG, ↓reduceIte] at e1
          exact ⟨_, _, e1, ua.trans (Upk.or z0), ug.trans (Upk.or nlr), fun q => by omega, fun _ => ⟨fun _ => ⟨SbS.or _ (o2 a).1, SbS.or _ (o2 a).2⟩, fun _ => o2 _⟩⟩
        · have hG' : (b64 (g ||| 0) i = true) = False := eq_false hG
          simp only [hG', ↓reduceIte] at e1
          exact ⟨_, _, e1, ua, ug, fun q => by omega, fun _ => ⟨fun _ => o2 a, fun q => absurd q hG⟩⟩
      · have hA' : (b64 a i = true) = False := eq_false hA
        simp only [hA', ↓reduceIte, Bool.false_eq_true] at e1
        by_cases hG : b64 g i = true
        · simp only [hG, ↓reduceIte] at e1
          exact ⟨_, _, e1, Upk.or z0, Upk.or nlr, fun q => by omega, fun _ => ⟨fun q => absurd ((Upk.or z0).2 i (Nat.le_refl _) q) hA, fun _ => o2 _⟩⟩
        · have hG' : (b64 g i = true) = False := eq_false hG
          simp only [hG', ↓reduceIte] at e1
          exact ⟨_, _, e1, Upk.refl, Upk.refl, fun q => by omega, fun _ => ⟨fun q => absurd q hA, fun q => absurd q hG⟩⟩
  · obtain ⟨v2, v3⟩ := k3 (by omega)
    have e1 := (fa_16 (n := n) hW hD hi h11 a g).trans ((fa_38 (n := n) hW (show i < 40 by omega) v2 v3 a g _).trans (fa_105 (n := n) hW (show i < 40 by omega) v2 v3 _ _ _))
    have up : ∀ (x : Int64) (b : Bool) (y : Int64), (∀ j, i ≤ j → b64 y j = false) → Upk i x (if b = true then x ||| y else x) := fun x b y h => by
      cases b with
      | true => rw [if_pos rfl]; exact Upk.or h
      | false => rw [if_neg Bool.false_ne_true]; exact Upk.refl
    have z1 : ∀ (b : Bool), ∀ j, i ≤ j → b64 (if b = true then (0 : Int64) else 0 ||| 0) j = false := fun b j hj => by
      cases b with
      | true => rw [if_pos rfl]; exact b64_0 j
      | false => rw [if_neg Bool.false_ne_true]; exact or_no z0 z0 j hj
    have z2 : ∀ (b : Bool), ∀ j, i ≤ j → b64 (if b = true then (0 : Int64) else 0) j = false := fun b j hj => by
      cases b with
      | true => rw [if_pos rfl]; exact b64_0 j
      | false => rw [if_neg Bool.false_ne_true]; exact b64_0 j
    exact ⟨_, _, e1, (up _ _ _ (z1 _)).trans (up _ _ _ (z2 _)), (up _ _ _ (z2 _)).trans (up _ _ _ (z1 _)), fun q => by omega, fun q => by omega⟩
theorem AgC.up {a g a2 g2 : Int64} {k i : Nat} (h : AgC kd lf rt a g i) (hk : k ≤ i) (ua : Upk k a a2) (ug : Upk k g g2) : AgC kd lf rt a2 g2 i := ⟨fun e => ⟨fun q => ⟨ua.1 _ ((h.1 e).1 (ua.2 i hk q)).1, ug.1 _ ((h.1 e).1 (ua.2 i hk q)).2⟩, fun q => ⟨ug.1 _ ((h.1 e).2 (ug.2 i hk q)).1, ua.1 _ ((h.1 e).2 (ug.2 i hk q)).2⟩⟩, fun e => ⟨fun q => ⟨ua.1 _ ((h.2 e).1 (ua.2 i hk q)).1, ua.1 _ ((h.2 e).1 (ua.2 i hk q)).2⟩, fun q => ⟨ug.1 _ ((h.2 e).2 (ug.2 i hk q)).1, ug.1 _ ((h.2 e).2 (ug.2 i hk q)).2⟩⟩⟩
theorem fa_loop (hW : Wd M) (hD : DcP M m kd lf rt) (h11 : ∀ i, i < m → kd i ≤ 11) (hlt : ∀ i, i < m → 9 ≤ kd i → lf i < i ∧ rt i < i) : ∀ i, i ≤ m → ∀ a g, (∀ i', i ≤ i' → i' < m → AgC kd lf rt a g i') → ∃ a2 g2, lp (st_X0_findAsked n) (16, [.ref 80, .long a, .long g, .int (dnI i)], M) = some (a2, M) ∧ SbS a a2 ∧ SbS g g2 ∧ ∀ i', i' < m → AgC kd lf rt a2 g2 i' := by
  intro i
  induction i with
  | zero =>
    intro hi a g hc
    refine ⟨a, g, ?_, SbS.refl, SbS.refl, fun i' h => hc i' (by omega) h⟩
    refine (ge_X0_findAsked_16 n 80 a g (dnI 0) M).trans ?_
    unfold T_X0_findAsked_16
    have h0 : (dnI 0 < (0 : Int32)) = True := eq_true (by decide)
    simp only [h0, ↓reduceIte]
  | succ i ih =>
    intro hi a g hc
    obtain ⟨a1, g1, y1, ua, ug, c1⟩ := fa_one (n := n) hW hD (show i < m by omega) (h11 i (by omega)) (hlt i (by omega)) a g
    obtain ⟨a2, g2, y2, s1, s2, c2⟩ := ih (by omega) a1 g1 (fun i' h1 h2 => by
      by_cases e : i' = i
      · subst e; exact c1
      · exact (hc i' (by omega) h2).up h1 ua ug)
    exact ⟨a2, g2, y1.trans y2, ua.1.trans s1, ug.1.trans s2, c2⟩
end FQ2
