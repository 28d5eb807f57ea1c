/-! FLAT, GOING ON: the blocks' guards read off, lengths, arraycopy -/
theorem ite_p {ρ : Type} {P : Sg → ρ → Prop} {r : ρ} {c : Prop} [Decidable c] {A B : Option (Sg ⊕ ρ)} (h : lpP P r (if c then A else B)) : (c ∧ lpP P r A) ∨ (¬ c ∧ lpP P r B) := by
  by_cases hc : c
  · rw [if_pos hc] at h
    exact Or.inl ⟨hc, h⟩
  · rw [if_neg hc] at h
    exact Or.inr ⟨hc, h⟩
theorem vR_p {ρ : Type} {P : Sg → ρ → Prop} {r : ρ} {l : List Value} {k : Nat → List Value → Option (Sg ⊕ ρ)} (_ : False → False) (h : lpP P r (vR l none k)) : ∃ a t, l = .ref a :: t ∧ lpP P r (k a t) := by
  unfold vR at h
  split at h
  · exact ⟨_, _, rfl, h⟩
  · exact h.elim
theorem vI_p {ρ : Type} {P : Sg → ρ → Prop} {r : ρ} {l : List Value} {k : Int32 → List Value → Option (Sg ⊕ ρ)} (_ : False → False) (h : lpP P r (vI l none k)) : ∃ a t, l = .int a :: t ∧ lpP P r (k a t) := by
  unfold vI at h
  split at h
  · exact ⟨_, _, rfl, h⟩
  · exact h.elim
theorem vJ_p {ρ : Type} {P : Sg → ρ → Prop} {r : ρ} {l : List Value} {k : Int64 → List Value → Option (Sg ⊕ ρ)} (_ : False → False) (h : lpP P r (vJ l none k)) : ∃ a t, l = .long a :: t ∧ lpP P r (k a t) := by
  unfold vJ at h
  split at h
  · exact ⟨_, _, rfl, h⟩
  · exact h.elim
theorem vE_p {ρ : Type} {P : Sg → ρ → Prop} {r : ρ} {l : List Value} {k : Option (Sg ⊕ ρ)} (_ : False → False) (h : lpP P r (vE l none k)) : l = [] ∧ lpP P r k := by
  unfold vE at h
  split at h
  · exact ⟨rfl, h⟩
  · exact h.elim
def aLen (M : Mem) (a : Nat) : Option Nat := if a < M.1 then (match M.2.1 a with
  | .inl q => if q.1 < 5 then some q.2 else none
  | .inr _ => none) else none
theorem aLen_t {M : Mem} {a z : Nat} (h : aLen M a = some z) : a < M.1 ∧ ∃ t, t < 5 ∧ M.2.1 a = .inl (t, z) := by
  unfold aLen at h
  split at h
  · rename_i ha
    refine ⟨ha, ?_⟩
    split at h
    · rename_i q e
      split at h
      · rename_i h5
        cases h
        exact ⟨q.1, h5, e⟩
      · cases h
    · cases h
  · cases h
theorem lk_none {x : Int32} (h1 : x.toInt ≠ 9) (h2 : x.toInt ≠ 10) : Op.lookupswitch.offset [(9, 25), (10, 57)] 96 x.toInt = 96 := by
  rw [Op.lookupswitch.offset_cons, if_neg (fun q => h1 q.symm), Op.lookupswitch.offset_cons, if_neg (fun q => h2 q.symm)]
  rfl
theorem ac_s : Cond.static arraycopyName ∈ TT := tt_t (tm4 (List.mem_of_getElem? (i := 53) rfl)) rfl
theorem ac_n : Cond.native arraycopyName ∈ TT := tt_t (tm4 (List.mem_of_getElem? (i := 54) rfl)) rfl
theorem ac_i : Cond.initialized "java/lang/System" ∈ TT := tt_t (tm1 (List.mem_of_getElem? (i := 18) rfl)) rfl
theorem ac_X9 : Cond.methodLink RX9 33 arraycopyName ∈ TT := tt_t (tm4 (List.mem_of_getElem? (i := 52) rfl)) rfl
theorem ac_X10 : Cond.methodLink RX10 269 arraycopyName ∈ TT := tt_t (tm5 (List.mem_of_getElem? (i := 39) rfl)) rfl
section SZ2
variable {p : Program} {l : Launch} {e : Env} {R : Room} {s : State} {m : MethodId} {args : Array Value} {below : List Frame} {meth : Method} {c : Code} {H : Heap} {locs : List Loc} {cells slots : Nat} {Q : State → Prop}
variable {cc : ByteArray} {pc : Nat} {ls : Array Slot} {rest : List Value} {D : va_G} {A : Nat → Prop} {a : Nat} {tys : List (ClassId × FieldType)} {ws : va_W} {H0 : Heap}
theorem nn_toInt {z : Int32} (hz : ¬ z < 0) : z.toInt = (z.toNatClampNeg : Int) := by
  have hz0 : (0 : Int) ≤ z.toInt := by
    have := Int32.not_lt.mp hz
    simpa using Int32.le_iff_toInt_le.mp this
  show z.toInt = ((z.toInt.toNat : Nat) : Int)
  omega
theorem z_copyi (hexec : p.tables.exec = Jvm.exec) (hb : c.code = cc) (hml : c.maxLocals = ls.size) {own : String} {index : Nat} (hown : s.vm.findClass own = some m.cls) (hlink : (Cond.methodLink own index arraycopyName).before args s = true) (hnat : (Cond.native arraycopyName).before args s = true) (hstat : (Cond.static arraycopyName).before args s = true) (hini : (Cond.initialized "java/lang/System").before args s = true)
    (hK : va_K D vwCl tys s) (hP : va_P D vwCl ws H) (hD : va_D A ws) (hS : va_S A H0 H locs) (q0 q1 t0 : Nat) {a0 : Nat} {c0 : ClassId} {n0 n1 : Nat} {f g : Nat → Int32} (ha0 : ws[q0]? = some (a0, .inl (c0, n0, .inl f))) (ha1 : ws[q1]? = some (a, .inl (c0, n1, .inl g))) (ht : tys[t0]? = some (c0, .int))
    {sp dp n : Int32} (h1 : ¬ sp < 0) (h2 : ¬ dp < 0) (h3 : ¬ n < 0) (h4 : sp.toNatClampNeg + n.toNatClampNeg ≤ n0) (h5 : dp.toNatClampNeg + n.toNatClampNeg ≤ n1)
    (hframes : 1 ≤ R.frames) (hlocals : (rest.map fun v => v.category).sum + (nativeFrameWords "java/lang/System" "arraycopy" 5 + 11) ≤ R.locals) (hdg : decode cc pc = .ok (.invokestatic index, 3))
    (kk : ∀ (H1 : Heap) (locs1 : List Loc), Aft D A H0 H ws q1 (a, .inl (c0, n1, .inl (va_cpy f g sp.toNatClampNeg dp.toNatClampNeg n.toNatClampNeg))) H1 locs1 → W p l e R s m args below meth c H1 locs1 cells slots Q (F0 m (pc + 3) ls rest)) : W p l e R s m args below meth c H locs cells slots Q (F0 m pc ls (.int n :: .int dp :: .ref a :: .int sp :: .ref a0 :: rest)) := by
  intro T hT X
  have hc0 : H[a0]? = some (vp_cell c0 (n0, .inl f)) := hP q0 _ ha0
  have hc1 : H[a]? = some (vp_cell c0 (n1, .inl g)) := hP q1 _ ha1
  obtain ⟨-, k0, hk0, cm0, hkk0⟩ := (hK.2 t0 _ ht).1 n0 (fun j => .int (f j))
  obtain ⟨-, k1, hk1, cm1, hkk1⟩ := (hK.2 t0 _ ht).1 n1 (fun j => .int (g j))
  obtain ⟨vm', X', step⟩ := X.arraycopy hexec hown hlink hnat hstat hini (src := a0) (dst := a) (cs := vp_cell c0 (n0, .inl f)) (cd := vp_cell c0 (n1, .inl g)) (srcPos := sp) (destPos := dp) (n := n) (by rw [hT]; exact hc0) (by rw [hT]; exact hc1)
    (fun _ h => by cases h) (fun _ h => by cases h) (fun h => by cases h) (fun h => by cases h) hk0 hk1 hkk0 hkk1 (by simp [refKind]) h1 h2 h3
    (by rw [nn_toInt h1, nn_toInt h3]; show ¬ _ > ((arrV c0 n0 (fun j => .int (f j))).slots.size : Int); rw [arrV_size]; omega)
    (by rw [nn_toInt h2, nn_toInt h3]; show ¬ _ > ((arrV c0 n1 (fun j => .int (g j))).slots.size : Int); rw [arrV_size]; omega)
    (fun vm₁ _ i hi => by
      have e : (vp_cell c0 (n0, .inl f)).slots.getD (sp.toNatClampNeg + i) .null = .int (f (sp.toNatClampNeg + i)) := by
        show (arrV c0 n0 (fun j => .int (f j))).slots.getD _ _ = _
        rw [Array.getD_eq_getD_getElem?, arrV_read _ _ (by omega)]
        rfl
      refine ⟨?_, ?_⟩
      · rw [e]
        rfl
      · rw [e]
        exact trivial)
    (g := F0 m pc ls (.int n :: .int dp :: .ref a :: .int sp :: .ref a0 :: rest)) rfl (by rw [hml]) (rest := rest) rfl (by rw [hb]; exact hdg) hframes (by show 2 * 0 + _ + _ ≤ _; omega)
  have e1 : copied (vp_cell c0 (n0, .inl f)) (vp_cell c0 (n1, .inl g)) sp dp n = vp_cell c0 (n1, .inl (va_cpy f g sp.toNatClampNeg dp.toNatClampNeg n.toNatClampNeg)) := va_copied (fun z => .int z) c0 c0 f g h4
  rw [e1] at X' step
  have hl : a < H.size := (Array.getElem?_eq_some_iff.mp hc1).1
  have hheap : ((T.setVm vm').setCell a (vp_cell c0 (n1, .inl (va_cpy f g sp.toNatClampNeg dp.toNatClampNeg n.toNatClampNeg)))).heap = H.setIfInBounds a (vp_cell c0 (n1, .inl (va_cpy f g sp.toNatClampNeg dp.toNatClampNeg n.toNatClampNeg))) := by rw [← hT]; rfl
  have oq : ∀ q : Nat, q ≠ a → (H.setIfInBounds a (vp_cell c0 (n1, .inl (va_cpy f g sp.toNatClampNeg dp.toNatClampNeg n.toNatClampNeg))))[q]? = H[q]? := fun q hq => by simp [Array.getElem?_setIfInBounds, Ne.symm hq]
  obtain ⟨t, a1, b1⟩ := kk _ _ ⟨by simp, hP.set hD ha1 (show (H.setIfInBounds a _)[a]? = some _ by simp [Array.getElem?_setIfInBounds, hl]) oq, ⟨by simp; exact hS.1, fun q g1 g2 => by
      rw [oq q (fun e => g2 (by rw [e]; exact hD.2 q1 _ ha1))]
      exact hS.2.1 q g1 g2, fun q hq => by
      rcases List.mem_append.mp hq with h | h
      · exact hS.2.2 q h
      · obtain ⟨z, -, hz⟩ := List.mem_map.mp h
        rw [← hz]
        exact hD.2 q1 _ ha1⟩⟩ _ hheap X'
  exact ⟨t, step t a1, b1⟩
end SZ2
def fC (M : Mem) (sa : Nat) (sp : Int32) (da : Nat) (dp z : Int32) (fr : Nat) : Prop := 1 ≤ fr ∧ sa < M.1 ∧ da < M.1 ∧ ∃ n0 n1, M.2.1 sa = .inl (1, n0) ∧ M.2.1 da = .inl (1, n1) ∧ ¬ sp < 0 ∧ ¬ dp < 0 ∧ ¬ z < 0 ∧ sp.toNatClampNeg + z.toNatClampNeg ≤ n0 ∧ dp.toNatClampNeg + z.toNatClampNeg ≤ n1
def cpM (M : Mem) (sa : Nat) (sp : Int32) (da : Nat) (dp z : Int32) : Mem := (M.1, M.2.1, fun b j => if b = da then va_cpy (M.2.2.1 sa) (M.2.2.1 da) sp.toNatClampNeg dp.toNatClampNeg z.toNatClampNeg j else M.2.2.1 b j, M.2.2.2.1, M.2.2.2.2)
theorem a_acopy {X : Nat × (Nat → Int32)} {B : Bx} {bc bs pc : Nat} {lv : List (Nat × Value)} {M : Mem} {Q : Option Value → Mem → Prop} {idx sa da : Nat} {sp dp z : Int32} (hd : decode B.2.1 pc = .ok (.invokestatic idx, 3)) (hl : Cond.methodLink B.1 idx arraycopyName ∈ TT) (g : fC M sa sp da dp z B.2.2.2.2.2.2) (kk : AW X B bc bs (pc + 3) lv [] (cpM M sa sp da dp z) Q) : AW X B bc bs pc lv [.int z, .int dp, .ref da, .int sp, .ref sa] M Q := by
  intro p l e R s m args below meth c h0 sp' cy D H locs ls cells slots mc ms F Y
  obtain ⟨g1, g2, g3, n0, n1, g4, g5, g6, g7, g8, g9, g10⟩ := g
  have hts := F.2.2.2.2.2.2.1
  rw [List.map_cons, List.map_cons, List.map_cons, List.map_cons, List.map_cons, mv_ref g2 Y.2.1, mv_ref g3 Y.2.1]
  have hfr : B.2.2.2.2.2.2 ≤ R.frames := F.2.2.2.2.2.2.2.2.1
  have hlo : 41 * B.2.2.2.2.2.2 ≤ R.locals := F.2.2.2.2.2.2.2.2.2.1
  refine z_copyi (n0 := n0) (n1 := n1) (f := M.2.2.1 sa) (g := M.2.2.1 da) F.1 F.2.1 (by rw [F.2.2.1]; exact Y.2.2.2.2.1.1.symm) F.2.2.2.2.2.1 (hts _ hl) (hts _ ac_n) (hts _ ac_s) (hts _ ac_i) F.2.2.2.2.2.2.2.2.2.2.1 Y.2.2.1 pic_D Y.2.2.2.1 (po sa) (po da) 1 (by rw [pic_at g2 (ok_a Y.2.1 g2 g4), cell_a g4]; rfl) (by rw [pic_at g3 (ok_a Y.2.1 g3 g5), cell_a g5]; rfl) (ty_at cy).2.1 g6 g7 g8 g9 g10 (by omega) (by show 0 + (7 + 11) ≤ _; omega) hd (fun H1 locs1 h => kk _ _ _ _ _ _ _ _ _ _ _ _ _ _ _ _ _ _ _ _ _ F (Y.put h g3 (ok_a Y.2.1 g3 g5) rfl rfl ?_ (fun b hb => cell_ne rfl (fun j => if_neg hb) (fun _ => rfl) (fun _ => rfl))))
  rw [cell_a (show (cpM M sa sp da dp z).2.1 da = _ from g5)]
  show Sum.inl (cy 1, n1, Sum.inl (fun j => if da = da then _ else _)) = _
  simp only [if_true]
theorem mminL_l : Cond.methodLink RX10 210 Lib.MathLoose.min_long.x ∈ TT := tt_t (tm4 (List.mem_of_getElem? (i := 160) rfl)) rfl
theorem mminL_s : Cond.static Lib.MathLoose.min_long.x ∈ TT := tt_t (tm4 (List.mem_of_getElem? (i := 161) rfl)) rfl
theorem mminL_c : Cond.code Lib.MathLoose.min_long.x Lib.MathLoose.min_long.code 4 (some .long) ∈ TT := tt_t (tm4 (List.mem_of_getElem? (i := 162) rfl)) rfl
theorem a_mminL {X : Nat × (Nat → Int32)} {B : Bx} {bc bs pc : Nat} {lv : List (Nat × Value)} {st : List Value} {M : Mem} {Q : Option Value → Mem → Prop} {idx : Nat} {x y : Int64} (hd : decode B.2.1 pc = .ok (.invokestatic idx, 3)) (hl : Cond.methodLink B.1 idx Lib.MathLoose.min_long.x ∈ TT) (hf : 1 ≤ B.2.2.2.2.2.2) (hst : (st.map fun v => v.category).sum ≤ 8) (kk : AW X B bc bs (pc + 3) lv (.long (if y < x then y else x) :: st) M Q) : AW X B bc bs pc lv (.long y :: .long x :: st) M Q := by
  intro p l e R s m args below meth c h0 sp cy D H locs ls cells slots mc ms F Y
  have hts := F.2.2.2.2.2.2.1
  have f1 := F.2.2.2.2.2.2.2.2.1
  have f2 := F.2.2.2.2.2.2.2.2.2.1
  exact va_mmin_long F.1 F.2.1 (by rw [F.2.2.1]; exact Y.2.2.2.2.1.1.symm) F.2.2.2.2.2.1 (hts _ hl) (hts _ mminL_s) (hts _ ini_Math) (hts _ mminL_c) (by omega) (by rw [cat_map]; omega) (by have := Y.2.2.2.2.2.1; have := Y.2.2.2.2.2.2.2.1; omega) (by have := Y.2.2.2.2.2.2.1; have := Y.2.2.2.2.2.2.2.2; omega) hd (kk _ _ _ _ _ _ _ _ _ _ _ _ _ _ _ _ _ _ _ _ _ F Y)
