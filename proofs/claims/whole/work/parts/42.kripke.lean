/-! FORMULAS AS TREES, AND WHAT FOLLOWS (Kripke): 'arg k' is word k (8: no), 'add' imp, 'mul' and, 'sub' or -/
abbrev Fm : Type := Jvm.Term
def frc {W : Type} (le : W → W → Prop) (V : W → Nat → Prop) : Fm → W → Prop
  | .arg k, w => k ≠ 8 ∧ V w k
  | .add a b, w => ∀ v, le w v → frc le V a v → frc le V b v
  | .mul a b, w => frc le V a w ∧ frc le V b w
  | .sub a b, w => frc le V a w ∨ frc le V b w
  | _, _ => False
def KM {W : Type} (le : W → W → Prop) (V : W → Nat → Prop) : Prop := (∀ w, le w w) ∧ (∀ a b c, le a b → le b c → le a c) ∧ ∀ a b k, le a b → V a k → V b k
theorem frc_up {W : Type} {le : W → W → Prop} {V : W → Nat → Prop} (h : KM le V) : ∀ {f : Fm} {w v : W}, frc le V f w → le w v → frc le V f v := by
  intro f
  induction f with
  | arg k => intro w v hf hl; exact ⟨hf.1, h.2.2 _ _ _ hl hf.2⟩
  | add a b iha ihb => intro w v hf hl u hu ha; exact hf u (h.2.1 _ _ _ hl hu) ha
  | mul a b iha ihb => intro w v hf hl; exact ⟨iha hf.1 hl, ihb hf.2 hl⟩
  | sub a b iha ihb => intro w v hf hl; exact hf.imp (fun q => iha q hl) (fun q => ihb q hl)
  | _ => intro w v hf hl; exact hf.elim
/-- a set of formulas holds at a world -/
def frs {W : Type} (le : W → W → Prop) (V : W → Nat → Prop) (G : Fm → Prop) (w : W) : Prop := ∀ f, G f → frc le V f w
def Ent (G : Fm → Prop) (f : Fm) : Prop := ∀ (W : Type) (le : W → W → Prop) (V : W → Nat → Prop), KM le V → ∀ w, frs le V G w → frc le V f w
theorem frs_up {W : Type} {le : W → W → Prop} {V : W → Nat → Prop} (h : KM le V) {G : Fm → Prop} {w v : W} (hf : frs le V G w) (hl : le w v) : frs le V G v := fun f q => frc_up h (hf f q) hl
theorem ent_mem {G : Fm → Prop} {f : Fm} (h : G f) : Ent G f := fun _ _ _ _ _ q => q f h
theorem ent_no {G : Fm → Prop} {f : Fm} (h : Ent G (.arg 8)) : Ent G f := fun W le V hk w q => ((h W le V hk w q).1 rfl).elim
/-- sets that hold at the same worlds -/
def Alk (G H : Fm → Prop) : Prop := ∀ (W : Type) (le : W → W → Prop) (V : W → Nat → Prop), KM le V → ∀ w, frs le V G w ↔ frs le V H w
theorem Alk.ent {G H : Fm → Prop} {f : Fm} (h : Alk G H) : Ent G f ↔ Ent H f := ⟨fun e W le V hk w q => e W le V hk w ((h W le V hk w).mpr q), fun e W le V hk w q => e W le V hk w ((h W le V hk w).mp q)⟩
theorem ent_imp {G : Fm → Prop} {a b : Fm} : Ent G (.add a b) ↔ Ent (fun f => G f ∨ f = a) b := by
  constructor
  · intro h W le V hk w q
    exact h W le V hk w (fun f g => q f (Or.inl g)) w (hk.1 w) (q a (Or.inr rfl))
  · intro h W le V hk w q v hv ha
    refine h W le V hk v (fun f g => ?_)
    rcases g with g | rfl
    · exact frc_up hk (q f g) hv
    · exact ha
theorem ent_and {G : Fm → Prop} {a b : Fm} : Ent G (.mul a b) ↔ Ent G a ∧ Ent G b :=
  ⟨fun h => ⟨fun W le V hk w q => (h W le V hk w q).1, fun W le V hk w q => (h W le V hk w q).2⟩, fun h W le V hk w q => ⟨h.1 W le V hk w q, h.2 W le V hk w q⟩⟩
theorem ent_or {G : Fm → Prop} {a b : Fm} (h : Ent G a ∨ Ent G b) : Ent G (.sub a b) := fun W le V hk w q => h.elim (fun e => Or.inl (e W le V hk w q)) (fun e => Or.inr (e W le V hk w q))
/-- an or among them -/
theorem ent_cas {G H K : Fm → Prop} {a b c : Fm} (hG : Alk G (fun f => H f ∨ f = .sub a b)) (hK : K = H) : Ent G c ↔ Ent (fun f => K f ∨ f = a) c ∧ Ent (fun f => K f ∨ f = b) c := by
  subst hK
  constructor
  · intro h
    constructor
    · intro W le V hk w q
      refine h W le V hk w ((hG W le V hk w).mpr (fun f g => ?_))
      rcases g with g | rfl
      · exact q f (Or.inl g)
      · exact Or.inl (q a (Or.inr rfl))
    · intro W le V hk w q
      refine h W le V hk w ((hG W le V hk w).mpr (fun f g => ?_))
      rcases g with g | rfl
      · exact q f (Or.inl g)
      · exact Or.inr (q b (Or.inr rfl))
  · intro h W le V hk w q
    have q' := (hG W le V hk w).mp q
    rcases q' _ (Or.inr rfl) with g | g
    · refine h.1 W le V hk w (fun f k => ?_)
      rcases k with k | rfl
      · exact q' f (Or.inl k)
      · exact g
    · refine h.2 W le V hk w (fun f k => ?_)
      rcases k with k | rfl
      · exact q' f (Or.inl k)
      · exact g
/-! THE CLASS's WAY: parts by numbers, sets that are closed as far as one goes -/
section DCD
variable (m : Nat) (kd lf rt : Nat → Nat) (goal : Nat) (asked granted : Nat → Prop)
def den (kd lf rt : Nat → Nat) : Nat → Nat → Fm
  | 0, i => .arg (kd i)
  | n + 1, i => if kd i = 9 then .add (den kd lf rt n (lf i)) (den kd lf rt n (rt i)) else if kd i = 10 then .mul (den kd lf rt n (lf i)) (den kd lf rt n (rt i)) else if kd i = 11 then .sub (den kd lf rt n (lf i)) (den kd lf rt n (rt i)) else .arg (kd i)
def Sat (T : Nat → Prop) : Prop := ∀ i, i < m → (kd i = 9 → (T (rt i) → T i) ∧ (T i → T (lf i) → T (rt i))) ∧ (kd i = 10 → (T i → T (lf i) ∧ T (rt i)) ∧ (T (lf i) → T (rt i) → T i)) ∧ (kd i = 11 → (T (lf i) ∨ T (rt i) → T i))
def Pri (T : Nat → Prop) : Prop := ∀ i, i < m → kd i = 11 → T i → T (lf i) ∨ T (rt i)
def Con (T : Nat → Prop) : Prop := ∀ i, i < m → kd i = 8 → ¬ T i
def Mtg (T Mt : Nat → Prop) : Prop := Mt goal ∧ (∀ i, i < m → kd i = 9 → asked i → T (lf i) → Mt (rt i)) ∧ (∀ i, i < m → kd i = 9 → T i → ¬ T (rt i) → Mt (lf i)) ∧ ∀ i, i < m → (kd i = 10 ∨ kd i = 11) → Mt i → Mt (lf i) ∧ Mt (rt i)
def Fnl : Nat → (Nat → Prop) → Prop
  | 0, _ => False
  | n + 1, T => Sat m kd lf rt T ∧ Pri m kd lf rt T ∧ Con m kd T ∧ ∃ Mt, Mtg m kd lf rt goal asked T Mt ∧ ∀ i, i < m → kd i = 9 → Mt i → ¬ T i → ¬ T (lf i) → ∃ T', Fnl n T' ∧ (∀ j, T j → T' j) ∧ T' (lf i) ∧ ¬ T' (rt i)
/-- what is right of the parts: lower numbers, atoms once, asked and granted go down -/
def PtOk : Prop := (∀ i, i < m → kd i ≤ 11) ∧ (∀ i, i < m → 9 ≤ kd i → lf i < i ∧ rt i < i) ∧ (∀ i j, i < m → j < m → kd i = kd j → kd i < 9 → i = j) ∧
  (∀ i, i < m → kd i = 9 → (asked i → asked (rt i) ∧ granted (lf i)) ∧ (granted i → granted (rt i) ∧ asked (lf i))) ∧
  (∀ i, i < m → (kd i = 10 ∨ kd i = 11) → (asked i → asked (lf i) ∧ asked (rt i)) ∧ (granted i → granted (lf i) ∧ granted (rt i)))
end DCD
section DCE
variable {m : Nat} {kd lf rt : Nat → Nat} {goal : Nat} {asked granted : Nat → Prop}
theorem den_st0 (hP : ∀ i, i < m → 9 ≤ kd i → lf i < i ∧ rt i < i) : ∀ {n k i : Nat}, i < m → i ≤ n → i ≤ k → den kd lf rt n i = den kd lf rt k i := by
  intro n
  induction n with
  | zero =>
    intro k i hi hn hk
    have h0 : i = 0 := by omega
    subst h0
    have hk9 : kd 0 < 9 := by
      apply Nat.lt_of_not_le
      intro q
      have := (hP 0 hi q).1
      omega
    cases k with
    | zero => rfl
    | succ k =>
      unfold den
      rw [if_neg (by omega), if_neg (by omega), if_neg (by omega)]
  | succ n ih =>
    intro k i hi hn hk
    cases k with
    | zero =>
      have h0 : i = 0 := by omega
      subst h0
      have hk9 : kd 0 < 9 := by
        apply Nat.lt_of_not_le
        intro q
        have := (hP 0 hi q).1
        omega
      unfold den
      rw [if_neg (by omega), if_neg (by omega), if_neg (by omega)]
    | succ k =>
      unfold den
      by_cases h9 : 9 ≤ kd i
      · have := hP i hi h9
        rw [ih (k := k) (i := lf i) (by omega) (by omega) (by omega), ih (k := k) (i := rt i) (by omega) (by omega) (by omega)]
      · rw [if_neg (by omega), if_neg (by omega), if_neg (by omega), if_neg (by omega), if_neg (by omega), if_neg (by omega)]
abbrev dn (kd lf rt : Nat → Nat) (i : Nat) : Fm := den kd lf rt i i
theorem dn_eq0 (hP : ∀ i, i < m → 9 ≤ kd i → lf i < i ∧ rt i < i) {i : Nat} (hi : i < m) : (kd i < 9 → dn kd lf rt i = .arg (kd i)) ∧ (kd i = 9 → dn kd lf rt i = .add (dn kd lf rt (lf i)) (dn kd lf rt (rt i))) ∧ (kd i = 10 → dn kd lf rt i = .mul (dn kd lf rt (lf i)) (dn kd lf rt (rt i))) ∧ (kd i = 11 → dn kd lf rt i = .sub (dn kd lf rt (lf i)) (dn kd lf rt (rt i))) := by
  have h1 : dn kd lf rt i = den kd lf rt (i + 1) i := den_st0 hP hi (by omega) (by omega)
  have h2 : 9 ≤ kd i → den kd lf rt i (lf i) = dn kd lf rt (lf i) ∧ den kd lf rt i (rt i) = dn kd lf rt (rt i) := fun q => by
    have := hP i hi q
    exact ⟨den_st0 hP (by omega) (by omega) (by omega), den_st0 hP (by omega) (by omega) (by omega)⟩
  rw [h1, show den kd lf rt (i + 1) i = (if kd i = 9 then .add (den kd lf rt i (lf i)) (den kd lf rt i (rt i)) else if kd i = 10 then .mul (den kd lf rt i (lf i)) (den kd lf rt i (rt i)) else if kd i = 11 then .sub (den kd lf rt i (lf i)) (den kd lf rt i (rt i)) else .arg (kd i)) from rfl]
  refine ⟨fun q => ?_, fun q => ?_, fun q => ?_, fun q => ?_⟩
  · rw [if_neg (by omega), if_neg (by omega), if_neg (by omega)]
  · rw [if_pos q, (h2 (by omega)).1, (h2 (by omega)).2]
  · rw [if_neg (by omega), if_pos q, (h2 (by omega)).1, (h2 (by omega)).2]
  · rw [if_neg (by omega), if_neg (by omega), if_pos q, (h2 (by omega)).1, (h2 (by omega)).2]
theorem dn_eq (hP : PtOk m kd lf rt asked granted) {i : Nat} (hi : i < m) : (kd i < 9 → dn kd lf rt i = .arg (kd i)) ∧ (kd i = 9 → dn kd lf rt i = .add (dn kd lf rt (lf i)) (dn kd lf rt (rt i))) ∧ (kd i = 10 → dn kd lf rt i = .mul (dn kd lf rt (lf i)) (dn kd lf rt (rt i))) ∧ (kd i = 11 → dn kd lf rt i = .sub (dn kd lf rt (lf i)) (dn kd lf rt (rt i))) := dn_eq0 hP.2.1 hi
/-- the worlds: sets that are closed -/
abbrev Wl (m : Nat) (kd lf rt : Nat → Nat) (goal : Nat) (asked : Nat → Prop) : Type := { T : Nat → Prop // ∃ n, Fnl m kd lf rt goal asked n T }
def Wle (a b : Wl m kd lf rt goal asked) : Prop := ∀ j, a.1 j → b.1 j
def WV (a : Wl m kd lf rt goal asked) (k : Nat) : Prop := ∃ i, i < m ∧ kd i = k ∧ a.1 i
theorem W_KM : KM (Wle (m := m) (kd := kd) (lf := lf) (rt := rt) (goal := goal) (asked := asked)) WV := by
  refine ⟨fun w j h => h, fun a b c h k j q => k j (h j q), fun a b k h q => ?_⟩
  obtain ⟨i, h1, h2, h3⟩ := q
  exact ⟨i, h1, h2, h i h3⟩
theorem W_true (hP : PtOk m kd lf rt asked granted) : ∀ (z i : Nat), i < z → i < m →
    (∀ (a : Wl m kd lf rt goal asked), granted i → a.1 i → frc Wle WV (dn kd lf rt i) a) ∧
    (∀ (n : Nat) (T Mt : Nat → Prop) (hF : Fnl m kd lf rt goal asked (n + 1) T), Mtg m kd lf rt goal asked T Mt → (∀ i, i < m → kd i = 9 → Mt i → ¬ T i → ¬ T (lf i) → ∃ T', Fnl m kd lf rt goal asked n T' ∧ (∀ j, T j → T' j) ∧ T' (lf i) ∧ ¬ T' (rt i)) → asked i → Mt i → ¬ T i → ¬ frc (Wle (m := m) (kd := kd) (lf := lf) (rt := rt) (goal := goal) (asked := asked)) WV (dn kd lf rt i) ⟨T, ⟨n + 1, hF⟩⟩) := by
  intro z
  induction z with
  | zero => intro i h; omega
  | succ z ih =>
    intro i hz hi
    have hd := dn_eq hP hi
    have h11 := hP.1 i hi
    by_cases h9 : kd i < 9
    · rw [hd.1 h9]
      constructor
      · intro a hg ha
        obtain ⟨T, n, hn⟩ := a
        cases n with
        | zero => exact hn.elim
        | succ n => exact ⟨fun q => hn.2.2.1 i hi q ha, i, hi, rfl, ha⟩
      · intro n T Mt hF hM hT ha hm hn q
        obtain ⟨-, j, hj, hk, hTj⟩ := q
        have := hP.2.2.1 j i hj hi hk (by omega)
        exact hn (this ▸ hTj)
    · have hlt := hP.2.1 i hi (by omega)
      have il := ih (lf i) (by omega) (by omega)
      have ir := ih (rt i) (by omega) (by omega)
      by_cases e9 : kd i = 9
      · rw [hd.2.1 e9]
        have hag := hP.2.2.2.1 i hi e9
        constructor
        · intro a hg ha b hab hl
          obtain ⟨hgr, hal⟩ := hag.2 hg
          by_cases hr : b.1 (rt i)
          · exact ir.1 b hgr hr
          · obtain ⟨T, n, hn⟩ := b
            cases n with
            | zero => exact hn.elim
            | succ n =>
              have hb : T i := hab i ha
              have hnl : ¬ T (lf i) := fun q => hr (((hn.1 i hi).1 e9).2 hb q)
              obtain ⟨Mt, hM, hT⟩ := hn.2.2.2
              exact (il.2 n T Mt hn hM hT hal (hM.2.2.1 i hi e9 hb hr) hnl hl).elim
        · intro n T Mt hF hM hT ha hm hn q
          obtain ⟨har, hgl⟩ := hag.1 ha
          by_cases hl : T (lf i)
          · have hr : ¬ T (rt i) := fun q => hn (((hF.1 i hi).1 e9).1 q)
            have h1 := il.1 ⟨T, ⟨n + 1, hF⟩⟩ hgl hl
            exact ir.2 n T Mt hF hM hT har (hM.2.1 i hi e9 ha hl) hr (q _ (fun _ h => h) h1)
          · obtain ⟨T', hF', hs, hl', hr'⟩ := hT i hi e9 hm hn hl
            cases n with
            | zero => exact hF'.elim
            | succ n =>
              have h1 := il.1 ⟨T', ⟨n + 1, hF'⟩⟩ hgl hl'
              obtain ⟨Mt', hM', hT'⟩ := hF'.2.2.2
              exact ir.2 n T' Mt' hF' hM' hT' har (hM'.2.1 i hi e9 ha hl') hr' (q ⟨T', ⟨n + 1, hF'⟩⟩ hs h1)
      · have hag := hP.2.2.2.2 i hi (by omega)
        by_cases e10 : kd i = 10
        · rw [hd.2.2.1 e10]
          constructor
          · intro a hg ha
            obtain ⟨T, n, hn⟩ := a
            cases n with
            | zero => exact hn.elim
            | succ n =>
              have := ((hn.1 i hi).2.1 e10).1 ha
              exact ⟨il.1 _ (hag.2 hg).1 this.1, ir.1 _ (hag.2 hg).2 this.2⟩
          · intro n T Mt hF hM hT ha hm hn q
            have h1 := hM.2.2.2 i hi (Or.inl e10) hm
            by_cases hl : T (lf i)
            · exact ir.2 n T Mt hF hM hT (hag.1 ha).2 h1.2 (fun hr => hn (((hF.1 i hi).2.1 e10).2 hl hr)) q.2
            · exact il.2 n T Mt hF hM hT (hag.1 ha).1 h1.1 hl q.1
        · have e11 : kd i = 11 := by omega
          rw [hd.2.2.2 e11]
          constructor
          · intro a hg ha
            obtain ⟨T, n, hn⟩ := a
            cases n with
            | zero => exact hn.elim
            | succ n =>
              rcases hn.2.1 i hi e11 ha with h | h
              · exact Or.inl (il.1 _ (hag.2 hg).1 h)
              · exact Or.inr (ir.1 _ (hag.2 hg).2 h)
          · intro n T Mt hF hM hT ha hm hn q
            have h1 := hM.2.2.2 i hi (Or.inr e11) hm
            have h2 := (hF.1 i hi).2.2 e11
            rcases q with q | q
            · exact il.2 n T Mt hF hM hT (hag.1 ha).1 h1.1 (fun hl => hn (h2 (Or.inl hl))) q
            · exact ir.2 n T Mt hF hM hT (hag.1 ha).2 h1.2 (fun hl => hn (h2 (Or.inr hl))) q
/-- the parts of a set, as formulas -/
def dnS (m : Nat) (kd lf rt : Nat → Nat) (S : Nat → Prop) : Fm → Prop := fun f => ∃ i, i < m ∧ S i ∧ f = dn kd lf rt i
theorem W_refutes (hP : PtOk m kd lf rt asked granted) {S : Nat → Prop} {n : Nat} {T : Nat → Prop} (hF : Fnl m kd lf rt goal asked n T) (hS : ∀ j, j < m → S j → granted j ∧ T j) (hg : goal < m) (ha : asked goal) (hT : ¬ T goal) : ¬ Ent (dnS m kd lf rt S) (dn kd lf rt goal) := by
  intro e
  cases n with
  | zero => exact hF.elim
  | succ n =>
    obtain ⟨Mt, hM, hT2⟩ := hF.2.2.2
    have q := e _ Wle WV W_KM ⟨T, ⟨n + 1, hF⟩⟩ (fun f hf => by
      obtain ⟨i, hi, hSi, rfl⟩ := hf
      exact (W_true hP (i + 1) i (by omega) hi).1 _ (hS i hi hSi).1 (hS i hi hSi).2)
    exact (W_true hP (goal + 1) goal (by omega) hg).2 n T Mt hF hM hT2 ha hM.1 hT q
end DCE
section DCF
variable {m : Nat} {kd lf rt : Nat → Nat} {goal : Nat} {asked granted : Nat → Prop}
theorem Fnl_up : ∀ {n : Nat} {T : Nat → Prop}, Fnl m kd lf rt goal asked n T → Fnl m kd lf rt goal asked (n + 1) T := by
  intro n
  induction n with
  | zero => intro T h; exact h.elim
  | succ n ih =>
    intro T h
    obtain ⟨h1, h2, h3, Mt, h4, h5⟩ := h
    refine ⟨h1, h2, h3, Mt, h4, fun i a b c d e => ?_⟩
    obtain ⟨T', q, r⟩ := h5 i a b c d e
    exact ⟨T', ih q, r⟩
theorem Fnl_le {n k : Nat} {T : Nat → Prop} (h : Fnl m kd lf rt goal asked n T) (hk : n ≤ k) : Fnl m kd lf rt goal asked k T := by
  induction hk with
  | refl => exact h
  | step _ ih => exact Fnl_up ih
theorem Fnl_all {C : Nat → Prop} {P : Nat → (Nat → Prop) → Prop} : ∀ (z : Nat), (∀ i, i < z → C i → ∃ n T, Fnl m kd lf rt goal asked n T ∧ P i T) → ∃ n, ∀ i, i < z → C i → ∃ T, Fnl m kd lf rt goal asked n T ∧ P i T := by
  intro z
  induction z with
  | zero => intro _; exact ⟨0, fun i h => by omega⟩
  | succ z ih =>
    intro h
    obtain ⟨n, hn⟩ := ih (fun i hi => h i (by omega))
    by_cases hC : C z
    · obtain ⟨k, T, hT, hp⟩ := h z (by omega) hC
      refine ⟨max n k, fun i hi hc => ?_⟩
      by_cases e : i = z
      · subst e
        exact ⟨T, Fnl_le hT (Nat.le_max_right _ _), hp⟩
      · obtain ⟨T', h1, h2⟩ := hn i (by omega) hc
        exact ⟨T', Fnl_le h1 (Nat.le_max_left _ _), h2⟩
    · refine ⟨n, fun i hi hc => ?_⟩
      have e : i ≠ z := fun q => hC (q ▸ hc)
      exact hn i (by omega) hc
/-- part j follows from the parts of a set -/
def EnI (m : Nat) (kd lf rt : Nat → Nat) (S : Nat → Prop) (j : Nat) : Prop := Ent (dnS m kd lf rt S) (dn kd lf rt j)
/-- what a set is closed to: sound, and what is left out fails at a world above -/
def ClO (m : Nat) (kd lf rt : Nat → Nat) (goal : Nat) (asked : Nat → Prop) (S R : Nat → Prop) : Prop := (∀ j, j < m → R j → EnI m kd lf rt S j) ∧ ∀ j, j < m → ¬ R j → ∃ n T, Fnl m kd lf rt goal asked n T ∧ (∀ i, i < m → S i → T i) ∧ ¬ T j
theorem EnI.mem {S : Nat → Prop} {j : Nat} (hj : j < m) (h : S j) : EnI m kd lf rt S j := ent_mem ⟨j, hj, h, rfl⟩
theorem EnI.cut {S K : Nat → Prop} {j : Nat} (h : ∀ i, i < m → K i → EnI m kd lf rt S i) (k : EnI m kd lf rt K j) : EnI m kd lf rt S j := fun W le V hk w q => k W le V hk w (fun f g => by
  obtain ⟨i, hi, hK, rfl⟩ := g
  exact h i hi hK W le V hk w q)
theorem EnI.and_l (hP : PtOk m kd lf rt asked granted) {S : Nat → Prop} {i : Nat} (hi : i < m) (e : kd i = 10) (h : EnI m kd lf rt S i) : EnI m kd lf rt S (lf i) ∧ EnI m kd lf rt S (rt i) := by
  unfold EnI at h
  rw [(dn_eq hP hi).2.2.1 e] at h
  exact ent_and.mp h
theorem EnI.and_r (hP : PtOk m kd lf rt asked granted) {S : Nat → Prop} {i : Nat} (hi : i < m) (e : kd i = 10) (h : EnI m kd lf rt S (lf i)) (k : EnI m kd lf rt S (rt i)) : EnI m kd lf rt S i := by
  unfold EnI
  rw [(dn_eq hP hi).2.2.1 e]
  exact ent_and.mpr ⟨h, k⟩
theorem EnI.or_r (hP : PtOk m kd lf rt asked granted) {S : Nat → Prop} {i : Nat} (hi : i < m) (e : kd i = 11) (h : EnI m kd lf rt S (lf i) ∨ EnI m kd lf rt S (rt i)) : EnI m kd lf rt S i := by
  unfold EnI
  rw [(dn_eq hP hi).2.2.2 e]
  exact ent_or h
theorem EnI.imp_l (hP : PtOk m kd lf rt asked granted) {S : Nat → Prop} {i : Nat} (hi : i < m) (e : kd i = 9) (h : EnI m kd lf rt S i) (k : EnI m kd lf rt S (lf i)) : EnI m kd lf rt S (rt i) := by
  unfold EnI at h k ⊢
  rw [(dn_eq hP hi).2.1 e] at h
  exact fun W le V hk w q => h W le V hk w q w (hk.1 w) (k W le V hk w q)
theorem EnI.imp_r (hP : PtOk m kd lf rt asked granted) {S : Nat → Prop} {i : Nat} (hi : i < m) (e : kd i = 9) (h : EnI m kd lf rt (fun j => S j ∨ j = lf i) (rt i)) : EnI m kd lf rt S i := by
  unfold EnI at h ⊢
  rw [(dn_eq hP hi).2.1 e, ent_imp]
  intro W le V hk w q
  refine h W le V hk w (fun f g => ?_)
  obtain ⟨j, hj, hS, rfl⟩ := g
  rcases hS with hS | rfl
  · exact q _ (Or.inl ⟨j, hj, hS, rfl⟩)
  · exact q _ (Or.inr rfl)
theorem EnI.imp_k (hP : PtOk m kd lf rt asked granted) {S : Nat → Prop} {i : Nat} (hi : i < m) (e : kd i = 9) (h : EnI m kd lf rt S (rt i)) : EnI m kd lf rt S i := EnI.imp_r hP hi e (EnI.cut (fun j hj q => EnI.mem hj (Or.inl q)) h)
theorem EnI.no (hP : PtOk m kd lf rt asked granted) {S : Nat → Prop} {i j : Nat} (hi : i < m) (e : kd i = 8) (h : EnI m kd lf rt S i) : EnI m kd lf rt S j := by
  unfold EnI at h
  rw [(dn_eq hP hi).1 (by omega), e] at h
  exact ent_no h
theorem EnI.cas (hP : PtOk m kd lf rt asked granted) {S : Nat → Prop} {i j : Nat} (hi : i < m) (e : kd i = 11) (h : EnI m kd lf rt S i) (k1 : EnI m kd lf rt (fun q => S q ∨ q = lf i) j) (k2 : EnI m kd lf rt (fun q => S q ∨ q = rt i) j) : EnI m kd lf rt S j := by
  have hl := hP.2.1 i hi (by omega)
  unfold EnI at h
  rw [(dn_eq hP hi).2.2.2 e] at h
  intro W le V hk w q
  rcases h W le V hk w q with g | g
  · refine k1 W le V hk w (fun f x => ?_)
    obtain ⟨u, hu, hS, rfl⟩ := x
    rcases hS with hS | rfl
    · exact q _ ⟨u, hu, hS, rfl⟩
    · exact g
  · refine k2 W le V hk w (fun f x => ?_)
    obtain ⟨u, hu, hS, rfl⟩ := x
    rcases hS with hS | rfl
    · exact q _ ⟨u, hu, hS, rfl⟩
    · exact g
theorem ClO.pre {S K R : Nat → Prop} (hs : ∀ i, i < m → S i → K i) (hk : ∀ i, i < m → K i → EnI m kd lf rt S i) (h : ClO m kd lf rt goal asked K R) : ClO m kd lf rt goal asked S R := by
  refine ⟨fun j hj q => EnI.cut hk (h.1 j hj q), fun j hj q => ?_⟩
  obtain ⟨n, T, hF, hK, hT⟩ := h.2 j hj q
  exact ⟨n, T, hF, fun i hi hS => hK i hi (hs i hi hS), hT⟩
theorem ClO.bad (hP : PtOk m kd lf rt asked granted) {S R : Nat → Prop} {i : Nat} (hi : i < m) (e : kd i = 8) (h : EnI m kd lf rt S i) (hR : ∀ j, j < m → R j) : ClO m kd lf rt goal asked S R := ⟨fun _ _ _ => EnI.no hP hi e h, fun j hj q => (q (hR j hj)).elim⟩
theorem ClO.both (hP : PtOk m kd lf rt asked granted) {S R1 R2 : Nat → Prop} {i : Nat} (hi : i < m) (e : kd i = 11) (hS : S i) (h1 : ClO m kd lf rt goal asked (fun j => S j ∨ j = lf i) R1) (h2 : ClO m kd lf rt goal asked (fun j => S j ∨ j = rt i) R2) : ClO m kd lf rt goal asked S (fun j => R1 j ∧ R2 j) := by
  refine ⟨fun j hj q => EnI.cas hP hi e (EnI.mem hi hS) (h1.1 j hj q.1) (h2.1 j hj q.2), fun j hj q => ?_⟩
  by_cases hr : R1 j
  · obtain ⟨n, T, hF, hK, hT⟩ := h2.2 j hj (fun r => q ⟨hr, r⟩)
    exact ⟨n, T, hF, fun i hi hS => hK i hi (Or.inl hS), hT⟩
  · obtain ⟨n, T, hF, hK, hT⟩ := h1.2 j hj hr
    exact ⟨n, T, hF, fun i hi hS => hK i hi (Or.inl hS), hT⟩
theorem ClO.fin {S K Mt : Nat → Prop} (hs : ∀ i, i < m → S i → K i) (hk : ∀ i, i < m → K i → EnI m kd lf rt S i) (h1 : Sat m kd lf rt K) (h2 : Pri m kd lf rt K) (h3 : Con m kd K) (h4 : Mtg m kd lf rt goal asked K Mt) (hin : ∀ j, K j → j < m) (hlt : ∀ i, i < m → 9 ≤ kd i → lf i < i ∧ rt i < i) (h5 : ∀ i, i < m → kd i = 9 → Mt i → ¬ K i → ¬ K (lf i) → ∃ R, ClO m kd lf rt goal asked (fun j => K j ∨ j = lf i) R ∧ ¬ R (rt i)) : ClO m kd lf rt goal asked S K := by
  refine ⟨hk, fun j hj q => ?_⟩
  obtain ⟨n, hn⟩ := Fnl_all (m := m) (kd := kd) (lf := lf) (rt := rt) (goal := goal) (asked := asked) (C := fun i => kd i = 9 ∧ Mt i ∧ ¬ K i ∧ ¬ K (lf i)) (P := fun i T => (∀ j, K j → T j) ∧ T (lf i) ∧ ¬ T (rt i)) m (fun i hi hc => by
    obtain ⟨R, hC, hR⟩ := h5 i hi hc.1 hc.2.1 hc.2.2.1 hc.2.2.2
    have hl := hlt i hi (by omega)
    obtain ⟨n, T, hF, hK, hT⟩ := hC.2 (rt i) (by omega) hR
    exact ⟨n, T, hF, fun j hj => hK j (hin j hj) (Or.inl hj), hK (lf i) (by omega) (Or.inr rfl), hT⟩)
  refine ⟨n + 1, K, ⟨h1, h2, h3, Mt, h4, fun i hi e a b c => ?_⟩, hs, q⟩
  obtain ⟨T, hF, x, y, z⟩ := hn i hi ⟨e, a, b, c⟩
  exact ⟨T, hF, x, y, z⟩
end DCF
