/-! THE REFERENCE's SEARCH: what follows from a row, rule by rule (Kripke) -/
abbrev EL (l : List Fm) (g : Fm) : Prop := Ent (fun x => x ∈ l) g
/-- a row without f, with new ones -/
def Rw (l : List Fm) (f : Fm) (new l' : List Fm) : Prop := ∀ x, x ∈ l' ↔ (x ∈ l ∧ x ≠ f) ∨ x ∈ new
section EL1
variable {l l1 l2 : List Fm} {g x y c f : Fm} {k : Nat}
theorem el_of (h : ∀ (W : Type) (le : W → W → Prop) (V : W → Nat → Prop), KM le V → ∀ w, frs le V (fun x => x ∈ l) w → frs le V (fun x => x ∈ l1) w) (q : EL l1 g) : EL l g := fun W le V hk w r => q W le V hk w (h W le V hk w r)
theorem rw_frs {new : List Fm} {W : Type} {le : W → W → Prop} {V : W → Nat → Prop} {w : W} (hr : Rw l f new l1) (h : frs le V (fun x => x ∈ l) w) (hn : ∀ z, z ∈ new → frc le V z w) : frs le V (fun x => x ∈ l1) w := fun z hz => by
  rcases (hr z).mp hz with q | q
  · exact h z q.1
  · exact hn z q
theorem rw_back {new : List Fm} {W : Type} {le : W → W → Prop} {V : W → Nat → Prop} {w : W} (hr : Rw l f new l1) (h : frs le V (fun x => x ∈ l1) w) (hf : frc le V f w) : frs le V (fun x => x ∈ l) w := fun z hz => by
  rcases Classical.em (z = f) with e | e
  · rw [e]; exact hf
  · exact h z ((hr z).mpr (Or.inl ⟨hz, e⟩))
theorem rw_new {new : List Fm} {W : Type} {le : W → W → Prop} {V : W → Nat → Prop} {w : W} (hr : Rw l f new l1) (h : frs le V (fun x => x ∈ l1) w) {z : Fm} (hz : z ∈ new) : frc le V z w := h z ((hr z).mpr (Or.inr hz))
theorem el_and (hf : Jvm.Term.mul x y ∈ l) (hr : Rw l (.mul x y) [x, y] l1) : EL l g ↔ EL l1 g := by
  constructor
  · refine el_of (fun W le V hk w r => rw_back hr r ⟨rw_new hr r (by simp), rw_new hr r (by simp)⟩)
  · refine el_of (fun W le V hk w r => rw_frs hr r (fun z hz => ?_))
    have q := r _ hf
    rcases List.mem_cons.mp hz with rfl | hz
    · exact q.1
    · rw [List.mem_singleton.mp hz]; exact q.2
theorem el_or (hf : Jvm.Term.sub x y ∈ l) (h1 : Rw l (.sub x y) [x] l1) (h2 : Rw l (.sub x y) [y] l2) : EL l g ↔ EL l1 g ∧ EL l2 g := by
  constructor
  · intro q
    exact ⟨el_of (fun W le V hk w r => rw_back h1 r (Or.inl (rw_new h1 r (by simp)))) q, el_of (fun W le V hk w r => rw_back h2 r (Or.inr (rw_new h2 r (by simp)))) q⟩
  · intro q W le V hk w r
    rcases r _ hf with t | t
    · exact q.1 W le V hk w (rw_frs h1 r (fun z hz => by rw [List.mem_singleton.mp hz]; exact t))
    · exact q.2 W le V hk w (rw_frs h2 r (fun z hz => by rw [List.mem_singleton.mp hz]; exact t))
theorem el_atom (hf : Jvm.Term.add x c ∈ l) (hx : x ∈ l) (hr : Rw l (.add x c) [c] l1) : EL l g ↔ EL l1 g := by
  constructor
  · exact el_of (fun W le V hk w r => rw_back hr r (fun v hv _ => frc_up hk (rw_new hr r (by simp)) hv))
  · exact el_of (fun W le V hk w r => rw_frs hr r (fun z hz => by rw [List.mem_singleton.mp hz]; exact r _ hf w (hk.1 w) (r _ hx)))
theorem el_no (hr : Rw l (.add (.arg 8) c) [] l1) : EL l g ↔ EL l1 g := by
  constructor
  · exact el_of (fun W le V hk w r => rw_back hr r (fun v hv q => absurd rfl q.1))
  · exact el_of (fun W le V hk w r => rw_frs hr r (fun z hz => absurd hz (by simp)))
theorem el_iand (hf : Jvm.Term.add (.mul x y) c ∈ l) (hr : Rw l (.add (.mul x y) c) [.add x (.add y c)] l1) : EL l g ↔ EL l1 g := by
  constructor
  · exact el_of (fun W le V hk w r => rw_back hr r (fun v hv q => frc_up hk (rw_new hr r (z := .add x (.add y c)) (by simp)) hv v (hk.1 v) q.1 v (hk.1 v) q.2))
  · refine el_of (fun W le V hk w r => rw_frs hr r (fun z hz => ?_))
    rw [List.mem_singleton.mp hz]
    intro v hv a u hu b
    exact r _ hf u (hk.2.1 _ _ _ hv hu) ⟨frc_up hk a hu, b⟩
theorem el_ior (hf : Jvm.Term.add (.sub x y) c ∈ l) (hr : Rw l (.add (.sub x y) c) [.add x c, .add y c] l1) : EL l g ↔ EL l1 g := by
  constructor
  · exact el_of (fun W le V hk w r => rw_back hr r (fun v hv q => q.elim (rw_new hr r (z := .add x c) (by simp) v hv) (rw_new hr r (z := .add y c) (by simp) v hv)))
  · refine el_of (fun W le V hk w r => rw_frs hr r (fun z hz => ?_))
    rcases List.mem_cons.mp hz with rfl | hz
    · exact fun v hv a => r _ hf v hv (Or.inl a)
    · rw [List.mem_singleton.mp hz]
      exact fun v hv a => r _ hf v hv (Or.inr a)
theorem el_one (hf : Jvm.Term.add (.add x y) c ∈ l) (h1 : Rw l (.add (.add x y) c) [x, .add y c] l1) (hy : EL l1 y) (h2 : Rw l (.add (.add x y) c) [c] l2) : EL l g ↔ EL l2 g := by
  constructor
  · exact el_of (fun W le V hk w r => rw_back h2 r (fun v hv _ => frc_up hk (rw_new h2 r (by simp)) hv))
  · refine el_of (fun W le V hk w r => rw_frs h2 r (fun z hz => ?_))
    rw [List.mem_singleton.mp hz]
    refine r _ hf w (hk.1 w) (fun v hv a => ?_)
    have rv := frs_up hk r hv
    refine hy W le V hk v (rw_frs h1 rv (fun z hz => ?_))
    rcases List.mem_cons.mp hz with rfl | hz
    · exact a
    · rw [List.mem_singleton.mp hz]
      exact fun u hu b => rv _ hf u hu (fun u2 h2 _ => frc_up hk b h2)
theorem el_gimp (h : ∀ z, z ∈ l1 ↔ z ∈ l ∨ z = x) : EL l (.add x y) ↔ EL l1 y := by
  rw [show EL l (.add x y) ↔ _ from ent_imp]
  have e : (fun f => f ∈ l ∨ f = x) = (fun z => z ∈ l1) := funext fun z => propext (h z).symm
  show Ent (fun f => f ∈ l ∨ f = x) y ↔ _
  rw [e]
end EL1
/-! one world below many models -/
section GL1
theorem not_ent {G : Fm → Prop} {f : Fm} (h : ¬ Ent G f) : ∃ (W : Type) (le : W → W → Prop) (V : W → Nat → Prop) (w : W), KM le V ∧ frs le V G w ∧ ¬ frc le V f w := by
  apply Classical.byContradiction
  intro q
  refine h (fun W le V hk w r => ?_)
  apply Classical.byContradiction
  intro t
  exact q ⟨W, le, V, w, hk, r, t⟩
variable {I : Type} {Wf : I → Type} {lf : ∀ i, Wf i → Wf i → Prop} {Vf : ∀ i, Wf i → Nat → Prop} {S : Nat → Prop}
def gle (lf : ∀ i, Wf i → Wf i → Prop) : Option (Sigma Wf) → Option (Sigma Wf) → Prop
  | none, _ => True
  | some _, none => False
  | some a, some b => ∃ c : Wf a.1, b = ⟨a.1, c⟩ ∧ lf a.1 a.2 c
def gV (Vf : ∀ i, Wf i → Nat → Prop) (S : Nat → Prop) : Option (Sigma Wf) → Nat → Prop
  | none, k => S k
  | some a, k => Vf a.1 a.2 k
theorem g_KM (hk : ∀ i, KM (lf i) (Vf i)) (hS : ∀ k, S k → ∀ i a, Vf i a k) : KM (gle lf) (gV Vf S) := by
  refine ⟨fun w => ?_, fun a b c h1 h2 => ?_, fun a b k h q => ?_⟩
  · cases w with
    | none => trivial
    | some a => exact ⟨a.2, rfl, (hk a.1).1 a.2⟩
  · cases a with
    | none => trivial
    | some a =>
      cases b with
      | none => exact h1.elim
      | some b =>
        cases c with
        | none => exact h2.elim
        | some c =>
          obtain ⟨u, e, l1⟩ := h1
          subst e
          obtain ⟨v, e, l2⟩ := h2
          exact ⟨v, e, (hk a.1).2.1 _ _ _ l1 l2⟩
  · cases a with
    | none =>
      cases b with
      | none => exact q
      | some b => exact hS k q b.1 b.2
    | some a =>
      cases b with
      | none => exact h.elim
      | some b =>
        obtain ⟨u, e, l1⟩ := h
        subst e
        exact (hk a.1).2.2 _ _ k l1 q
theorem g_frc : ∀ (f : Fm) (i : I) (a : Wf i), frc (gle lf) (gV Vf S) f (some ⟨i, a⟩) ↔ frc (lf i) (Vf i) f a := by
  intro f
  induction f with
  | arg k => intro i a; exact Iff.rfl
  | add x y ix iy =>
    intro i a
    constructor
    · intro h v hv q
      exact (iy i v).mp (h (some ⟨i, v⟩) ⟨v, rfl, hv⟩ ((ix i v).mpr q))
    · intro h v hv q
      cases v with
      | none => exact hv.elim
      | some b =>
        obtain ⟨u, e, l1⟩ := hv
        subst e
        exact (iy i u).mpr (h u l1 ((ix i u).mp q))
  | mul x y ix iy => intro i a; exact and_congr (ix i a) (iy i a)
  | sub x y ix iy => intro i a; exact or_congr (ix i a) (iy i a)
  | _ => intro i a; exact Iff.rfl
end GL1
theorem glue (D : (Fm → Prop) → Fm → Prop) (hD : ∀ G f, D G f → ¬ Ent G f) (S : Nat → Prop) (hS : ∀ G f, D G f → ∀ k, S k → k ≠ 8 ∧ G (.arg k)) : ∃ (W : Type) (le : W → W → Prop) (V : W → Nat → Prop) (w : W), KM le V ∧ (∀ k, V w k ↔ S k) ∧ (∀ G f, D G f → ∃ v, le w v ∧ frs le V G v ∧ ¬ frc le V f v) ∧ ∀ v, le w v → v = w ∨ ∃ G f u, D G f ∧ le u v ∧ frs le V G u := by
  have ch : ∀ i : { p : (Fm → Prop) × Fm // D p.1 p.2 }, ∃ (W : Type) (le : W → W → Prop) (V : W → Nat → Prop) (w : W), KM le V ∧ frs le V i.1.1 w ∧ ¬ frc le V i.1.2 w := fun i => not_ent (hD _ _ i.2)
  let Wx := fun i => Classical.choose (ch i)
  let lx := fun i => Classical.choose (Classical.choose_spec (ch i))
  let Vx := fun i => Classical.choose (Classical.choose_spec (Classical.choose_spec (ch i)))
  let wx := fun i => Classical.choose (Classical.choose_spec (Classical.choose_spec (Classical.choose_spec (ch i))))
  have hx : ∀ i, KM (lx i) (Vx i) ∧ frs (lx i) (Vx i) i.1.1 (wx i) ∧ ¬ frc (lx i) (Vx i) i.1.2 (wx i) := fun i => Classical.choose_spec (Classical.choose_spec (Classical.choose_spec (Classical.choose_spec (ch i))))
  -- only what lies above the chosen worlds
  let Wf : { p : (Fm → Prop) × Fm // D p.1 p.2 } → Type := fun i => { v : Wx i // lx i (wx i) v }
  let lf : ∀ i, Wf i → Wf i → Prop := fun i a b => lx i a.1 b.1
  let Vf : ∀ i, Wf i → Nat → Prop := fun i a k => Vx i a.1 k
  have hk : ∀ i, KM (lf i) (Vf i) := fun i => ⟨fun a => (hx i).1.1 a.1, fun a b c h1 h2 => (hx i).1.2.1 _ _ _ h1 h2, fun a b k h q => (hx i).1.2.2 _ _ k h q⟩
  have fe : ∀ (f : Fm) i (a : Wf i), frc (lf i) (Vf i) f a ↔ frc (lx i) (Vx i) f a.1 := by
    intro f
    induction f with
    | arg k => intro i a; exact Iff.rfl
    | add x y ix iy =>
      intro i a
      constructor
      · intro h v hv q
        have hv' : lx i (wx i) v := (hx i).1.2.1 _ _ _ a.2 hv
        exact (iy i ⟨v, hv'⟩).mp (h ⟨v, hv'⟩ hv ((ix i ⟨v, hv'⟩).mpr q))
      · intro h v hv q
        exact (iy i v).mpr (h v.1 hv ((ix i v).mp q))
    | mul x y ix iy => intro i a; exact and_congr (ix i a) (iy i a)
    | sub x y ix iy => intro i a; exact or_congr (ix i a) (iy i a)
    | _ => intro i a; exact Iff.rfl
  have hS2 : ∀ k, S k → ∀ i (a : Wf i), Vf i a k := fun k hk' i a => by
    have q := (hx i).2.1 _ (hS _ _ i.2 k hk').2
    exact (hx i).1.2.2 _ _ k a.2 q.2
  have top : ∀ i, lx i (wx i) (wx i) := fun i => (hx i).1.1 _
  refine ⟨Option (Sigma Wf), gle lf, gV Vf S, none, g_KM hk hS2, fun k => Iff.rfl, fun G f hd => ?_, fun v hv => ?_⟩
  · let i : { p : (Fm → Prop) × Fm // D p.1 p.2 } := ⟨(G, f), hd⟩
    refine ⟨some ⟨i, ⟨wx i, top i⟩⟩, trivial, fun z hz => (g_frc z i _).mpr ((fe z i _).mpr ((hx i).2.1 z hz)), fun q => (hx i).2.2 ((fe f i _).mp ((g_frc f i _).mp q))⟩
  · cases v with
    | none => exact Or.inl rfl
    | some b =>
      obtain ⟨i, a⟩ := b
      exact Or.inr ⟨i.1.1, i.1.2, some ⟨i, ⟨wx i, top i⟩⟩, i.2, ⟨a, rfl, a.2⟩, fun z hz => (g_frc z i _).mpr ((fe z i _).mpr ((hx i).2.1 z hz))⟩
/-- a row in which nothing is left to do but to try -/
def Irr (l : List Fm) (f : Fm) : Prop := (∃ k, f = .arg k) ∨ (∃ k c, f = .add (.arg k) c ∧ k ≠ 8 ∧ Jvm.Term.arg k ∉ l) ∨ ∃ x y c, f = .add (.add x y) c
theorem el_irr {l : List Fm} {g : Fm} (h1 : ∀ f, f ∈ l → Irr l f) (h8 : Jvm.Term.arg 8 ∉ l) (h2 : ∀ x y c, Jvm.Term.add (.add x y) c ∈ l → ∃ l1, Rw l (.add (.add x y) c) [x, .add y c] l1 ∧ ¬ EL l1 y) (h3 : (∃ k, g = .arg k ∧ g ∉ l) ∨ ∃ a b, g = .sub a b ∧ ¬ EL l a ∧ ¬ EL l b) : ¬ EL l g := by
  intro he
  obtain ⟨W, le, V, w, hk, hV, hD, hC⟩ := glue (fun G f => (∃ x y c l1, Jvm.Term.add (.add x y) c ∈ l ∧ Rw l (.add (.add x y) c) [x, .add y c] l1 ∧ ¬ EL l1 y ∧ G = (fun z => z ∈ l1) ∧ f = y) ∨ ∃ a b, g = .sub a b ∧ G = (fun z => z ∈ l) ∧ (f = a ∨ f = b)) (fun G f q => by
    rcases q with ⟨x, y, c, l1, a1, a2, a3, rfl, rfl⟩ | ⟨a, b, e, rfl, q⟩
    · exact a3
    · rcases h3 with ⟨k, e2, -⟩ | ⟨a', b', e2, n1, n2⟩
      · rw [e2] at e; cases e
      · rw [e2] at e
        cases e
        rcases q with rfl | rfl
        · exact n1
        · exact n2) (fun k => k ≠ 8 ∧ Jvm.Term.arg k ∈ l) (fun G f q k hS => ⟨hS.1, by
    rcases q with ⟨x, y, c, l1, a1, a2, a3, rfl, rfl⟩ | ⟨a, b, e, rfl, q⟩
    · exact (a2 _).mpr (Or.inl ⟨hS.2, fun e => by cases e⟩)
    · exact hS.2⟩)
  have cA : ∀ G f u, ((∃ x y c l1, Jvm.Term.add (.add x y) c ∈ l ∧ Rw l (.add (.add x y) c) [x, .add y c] l1 ∧ ¬ EL l1 y ∧ G = (fun z => z ∈ l1) ∧ f = y) ∨ ∃ a b, g = .sub a b ∧ G = (fun z => z ∈ l) ∧ (f = a ∨ f = b)) → frs le V G u → frs le V (fun z => z ∈ l) u := by
    intro G f u q r
    rcases q with ⟨x, y, c, l1, a1, a2, a3, rfl, rfl⟩ | ⟨a, b, e, rfl, q⟩
    · refine rw_back a2 r (fun v hv q => ?_)
      have rv := frs_up hk r hv
      exact rw_new a2 rv (z := .add f c) (by simp) v (hk.1 v) (q v (hk.1 v) (rw_new a2 rv (by simp)))
    · exact r
  have above : ∀ z, z ∈ l → ∀ v, le w v → v ≠ w → frc le V z v := fun z hz v hv hne => by
    rcases hC v hv with e | ⟨G, f, u, q, hu, r⟩
    · exact absurd e hne
    · exact frc_up hk (cA G f u q r z hz) hu
  have cB : frs le V (fun z => z ∈ l) w := by
    intro z hz
    rcases h1 z hz with ⟨k, rfl⟩ | ⟨k, c, rfl, k8, kn⟩ | ⟨x, y, c, rfl⟩
    · have n8 : k ≠ 8 := fun e => h8 (by rw [← e]; exact hz)
      exact ⟨n8, (hV k).mpr ⟨n8, hz⟩⟩
    · intro v hv q
      rcases Classical.em (v = w) with e | e
      · subst e
        exact absurd ((hV k).mp q.2).2 kn
      · exact above _ hz v hv e v (hk.1 v) q
    · intro v hv q
      rcases Classical.em (v = w) with e | e
      · subst e
        obtain ⟨l1, r1, n1⟩ := h2 x y c hz
        obtain ⟨v1, hv1, f1, nf⟩ := hD _ _ (Or.inl ⟨x, y, c, l1, hz, r1, n1, rfl, rfl⟩)
        exact absurd (q v1 hv1 (rw_new r1 f1 (by simp))) nf
      · exact above _ hz v hv e v (hk.1 v) q
  have q := he W le V hk w cB
  rcases h3 with ⟨k, rfl, ng⟩ | ⟨a, b, rfl, n1, n2⟩
  · exact ng ((hV k).mp q.2).2
  · rcases q with q | q
    · obtain ⟨v1, hv1, f1, nf⟩ := hD _ _ (Or.inr ⟨a, b, rfl, rfl, Or.inl rfl⟩)
      exact nf (frc_up hk q hv1)
    · obtain ⟨v1, hv1, f1, nf⟩ := hD _ _ (Or.inr ⟨a, b, rfl, rfl, Or.inr rfl⟩)
      exact nf (frc_up hk q hv1)
