/-! RULES OF CELLS: fields, arrays -/
def up2 {α : Type} (f : Nat → Nat → α) (a k : Nat) (v : α) : Nat → Nat → α := fun b j => if b = a ∧ j = k then v else f b j
abbrev wI (M : Mem) (a k : Nat) (x : Int32) : Mem := (M.1, M.2.1, up2 M.2.2.1 a k x, M.2.2.2.1, M.2.2.2.2)
abbrev wJ (M : Mem) (a k : Nat) (x : Int64) : Mem := (M.1, M.2.1, M.2.2.1, up2 M.2.2.2.1 a k x, M.2.2.2.2)
abbrev wR (M : Mem) (a k : Nat) (x : Option Nat) : Mem := (M.1, M.2.1, M.2.2.1, M.2.2.2.1, up2 M.2.2.2.2 a k x)
def gv (M : Mem) (ci a k : Nat) : Value := match fK ci k with
  | 0 => .int (M.2.2.1 a k)
  | 1 => .long (M.2.2.2.1 a k)
  | _ => va_rf (M.2.2.2.2 a k)
theorem gv_mv (h0 : Nat) (sp : Nat → Nat) (M : Mem) (ci a k : Nat) : mv h0 sp (gv M ci a k) = fv h0 sp M ci a k := by
  unfold gv fv
  generalize fK ci k = t
  match t with
  | 0 => rfl
  | 1 => rfl
  | t + 2 => cases h : M.2.2.2.2 a k <;> simp [h, mv, mo, va_rf]
theorem rA_in {h0 a : Nat} {sp : Nat → Nat} {M : Mem} (ha : a < M.1) (hm : okM M) : rA h0 sp a = h0 + po a := if_pos (Nat.lt_of_lt_of_le ha hm.1)
theorem cell_o {h0 : Nat} {sp : Nat → Nat} {cy : Nat → ClassId} {M : Mem} {a ci : Nat} (hs : M.2.1 a = .inr ci) : cellE h0 sp cy M a = .inr (ci, (List.range (cN ci)).map (fv h0 sp M ci a)) := by unfold cellE; rw [hs]
theorem cell_a {h0 : Nat} {sp : Nat → Nat} {cy : Nat → ClassId} {M : Mem} {a t n : Nat} (hs : M.2.1 a = .inl (t, n)) : cellE h0 sp cy M a = .inl (cy t, ac h0 sp M t a n) := by unfold cellE; rw [hs]
theorem fs_at {h0 : Nat} {sp : Nat → Nat} {M : Mem} {ci a k : Nat} (hk : k < cN ci) : ((List.range (cN ci)).map (fv h0 sp M ci a))[k]? = some (mv h0 sp (gv M ci a k)) := by
  rw [List.getElem?_map, List.getElem?_range hk, gv_mv]
  rfl
theorem fs_set {h0 : Nat} {sp : Nat → Nat} {M M' : Mem} {ci a k : Nat} {v : Value} (hv : fv h0 sp M' ci a k = v) (ho : ∀ j, j ≠ k → fv h0 sp M' ci a j = fv h0 sp M ci a j) (hk : k < cN ci) : ((List.range (cN ci)).map (fv h0 sp M ci a)).set k v = (List.range (cN ci)).map (fv h0 sp M' ci a) := by
  apply List.ext_getElem?
  intro j
  rw [List.getElem?_set]
  by_cases hj : k = j
  · subst hj
    rw [if_pos rfl, if_pos (by simpa using hk), List.getElem?_map, List.getElem?_range hk]
    show some v = some _
    rw [hv]
  · rw [if_neg hj]
    by_cases hl : j < cN ci
    · rw [List.getElem?_map, List.getElem?_map, List.getElem?_range hl]
      show some _ = some _
      rw [ho j (fun q => hj q.symm)]
    · rw [List.getElem?_eq_none (by simpa using Nat.le_of_not_lt hl), List.getElem?_eq_none (by simpa using Nat.le_of_not_lt hl)]
theorem up2_s {α : Type} (f : Nat → Nat → α) (a k : Nat) (v : α) : up2 f a k v a k = v := by simp [up2]
theorem up2_a {α : Type} (f : Nat → Nat → α) {a b : Nat} (k j : Nat) (v : α) (h : b ≠ a) : up2 f a k v b j = f b j := by simp [up2, h]
theorem up2_k {α : Type} (f : Nat → Nat → α) (a : Nat) {k j : Nat} (v : α) (h : j ≠ k) : up2 f a k v a j = f a j := by simp [up2, h]
theorem cell_ne {h0 : Nat} {sp : Nat → Nat} {cy : Nat → ClassId} {M M' : Mem} {a : Nat} (hs : M'.2.1 a = M.2.1 a) (hi : ∀ j, M'.2.2.1 a j = M.2.2.1 a j) (hj : ∀ j, M'.2.2.2.1 a j = M.2.2.2.1 a j) (hr : ∀ j, M'.2.2.2.2 a j = M.2.2.2.2 a j) : cellE h0 sp cy M' a = cellE h0 sp cy M a := by
  have e1 : M'.2.2.1 a = M.2.2.1 a := funext hi
  have e2 : M'.2.2.2.1 a = M.2.2.2.1 a := funext hj
  have e3 : M'.2.2.2.2 a = M.2.2.2.2 a := funext hr
  unfold cellE
  rw [hs]
  cases M.2.1 a with
  | inl q => simp only [ac, e1, e2, e3]
  | inr ci =>
    have : fv h0 sp M' ci a = fv h0 sp M ci a := by
      funext j
      unfold fv
      rw [e1, e2, e3]
    simp only [this]
section SZ
variable {p : Program} {l : Launch} {e : Env} {R : Room} {s : State} {m : MethodId} {args : Array Value} {below : List Frame} {meth : Method} {c : Code} {H : Heap} {locs : List Loc} {cells slots : Nat} {Q : State → Prop}
variable {cc : ByteArray} {pc : Nat} {ls : Array Slot} {rest : List Value} {D : va_G} {A : Nat → Prop} {a : Nat} {tys : List (ClassId × FieldType)} {ws : va_W} {H0 : Heap}
/-- what a store into a field leaves: the world with that field, all else as it was, the heap as large as before -/
def Aft (D : va_G) (A : Nat → Prop) (H0 H : Heap) (ws : va_W) (q0 : Nat) (x : Nat × va_E) (H1 : Heap) (locs1 : List Loc) : Prop := H1.size = H.size ∧ va_P D vwCl (ws.set q0 x) H1 ∧ va_S A H0 H1 locs1
theorem z_put (nst : Bool) (hexec : p.tables.exec = Jvm.exec) (hb : c.code = cc) {own : String} {ci index : Nat} (hci : ci < 12) (hts : ∀ w ∈ TT, w.before args s = true) (hown : s.vm.findClass own = some m.cls) (hK : va_K D vwCl tys s) (hP : va_P D vwCl ws H) (hD : va_D A ws) (hS0 : va_S A H0 H locs) (q0 : Nat) {fs : List Value} (he : ws[q0]? = some (a, .inr (ci, fs))) (k : Nat) (hk : k < cN ci)
    (hlink : (nst = false ∧ (Cond.fieldLink own index (cT ci k).1 (cT ci k).2.1 (cT ci k).2.2.1).before args s = true) ∨ (nst = true ∧ (cT ci k).2.2.2 = false ∧ (Cond.fieldLinkNest own index (cT ci k).1 (cT ci k).2.1 (cT ci k).2.2.1 "ProofTrim").before args s = true))
    (hfin : (cT ci k).2.2.2 = false ∨ ((cT ci k).2.2.2 = true ∧ meth.name = "<init>" ∧ (cT ci k).1 = own)) {v : Value} (hn : narrow (cTy ci k) v = v) (hfit : fits (cTy ci k) v = true) (hl : k < fs.length)
    (hdg : decode cc pc = .ok (.putfield index, 3)) (kk : ∀ (H1 : Heap) (locs1 : List Loc), Aft D A H0 H ws q0 (a, .inr (ci, fs.set k v)) H1 locs1 → W p l e R s m args below meth c H1 locs1 cells slots Q (F0 m (pc + 3) ls rest)) : W p l e R s m args below meth c H locs cells slots Q (F0 m pc ls (v :: .ref a :: rest)) := by
  have hc := c_get ci hci
  have hin := c_in ci hci
  have hd := c_ty ci hci k hk
  have hap := va_apart (own := own) hts hin (cTy ci) (c_ty ci hci) (c_nm ci hci) hK hc
  obtain ⟨r, h1, cell, q1, q2, q3, q4⟩ := hP q0 _ he
  have hr : r = (cNm ci, cT ci, cN ci) := Option.some.inj (h1.symm.trans hc)
  subst hr
  obtain ⟨hS, hfc, kC, hkC, hkind⟩ := hK.1 ci _ hc
  obtain ⟨cf, kf, fi, f, hi, hsl⟩ := hS k hk
  have hlay := hts _ (hin _ (u_in_lay hk))
  have hst := (u_facts hfc hkC (u_lays hts hin hk) hi).1
  have fin : ∀ (H1 : Heap), H1[a]? = some (cell.setSlot f.slot v) → H1.size = H.size → (∀ q, q ≠ a → H1[q]? = H[q]?) → W p l e R s m args below meth c H1 (locs ++ [⟨a, f.slot⟩]) cells slots Q (F0 m (pc + 3) ls rest) := by
    intro H1 e1 e2 e3
    rw [hsl] at e1 ⊢
    exact kk H1 _ ⟨e2, hP.set hD he ⟨_, hc, t_OB.to (V := updV (vp_V fs) k v) ⟨_, e1, q2, q3, t_set q4 hap hk v⟩ (fun j _ => vp_updV_set hl v j)⟩ e3, hS0.put e2 e3 (hD.2 q0 _ he)⟩
  unfold u_lay at hlay
  have hlt : f.slot < cell.slots.size := by rw [hsl]; exact k2_hasslot (q4 k hk)
  rcases hlink with ⟨-, hlink⟩ | ⟨-, hnf, hlink⟩
  · rcases hfin with hf | ⟨hf, hin2, hdecl⟩
    · rw [if_neg (by rw [hf]; decide)] at hlay
      have h6 := u_store hfc hkC hkind hlay hi hd hn hfit
      exact W.putK hexec hb (f := f) ⟨hown, hlink, ⟨_, _, _, hi⟩, hst⟩ (by rw [q2]; exact h6) q1 q3 hlt rfl rfl hdg fin
    · rw [if_pos hf] at hlay
      have hcf : m.cls = cf := by
        obtain ⟨_, _, c', _, _, _, -, -, hf', -, -, -, hown2, -⟩ := Cond.laysFinal_spec hlay
        have e1 : c' = cf := by have := hi.symm.trans hf'; simp at this; exact this.1.symm
        rw [hdecl] at hown2
        rw [← e1]; exact Option.some.inj (hown.symm.trans hown2)
      have h6 := u_fits hfc hkC hkind (Or.inr hlay) hi hd hn hfit
      exact W.putFinK hexec hb hown hlink hi hst hcf hin2 (by rw [q2]; exact h6) q1 q3 hlt rfl rfl hdg fin
  · rw [if_neg (by rw [hnf]; decide)] at hlay
    have h6 := u_store hfc hkC hkind hlay hi hd hn hfit
    exact va_WputK hexec hb (f := f) hown hlink hi hst (by rw [q2]; exact h6) q1 q3 hlt rfl rfl hdg fin
theorem z_iast (hexec : p.tables.exec = Jvm.exec) (hb : c.code = cc) (hK : va_K D vwCl tys s) (hP : va_P D vwCl ws H) (hD : va_D A ws) (hS : va_S A H0 H locs) (q0 t0 : Nat) {cA : ClassId} {n : Nat} {f : Nat → Int32} (ha : ws[q0]? = some (a, .inl (cA, n, .inl f))) (ht : tys[t0]? = some (cA, .int)) {i : Int32} {x : Int32} (hin : vp_in i n) (hdg : decode cc pc = .ok (.iastore, 1))
    (kk : ∀ (H1 : Heap) (locs1 : List Loc), Aft D A H0 H ws q0 (a, .inl (cA, n, .inl (upd f i.toNatClampNeg x))) H1 locs1 → W p l e R s m args below meth c H1 locs1 cells slots Q (F0 m (pc + 1) ls rest)) : W p l e R s m args below meth c H locs cells slots Q (F0 m pc ls (.int x :: .int i :: .ref a :: rest)) := by
  refine W.iast hexec hb (hP q0 _ ha) ((hK.2 t0 _ ht).1 n (fun j => .int (f j))) (fun q => by cases q) (by show ¬ (i < 0 ∨ (arrV _ _ _).slots.size ≤ _); rw [arrV_size]; exact hin) rfl rfl hdg fun H1 e z oq => ?_
  refine kk H1 _ ⟨z, hP.set hD ha ?_ oq, hS.put z oq (hD.2 q0 _ ha)⟩
  show H1[a]? = some (vp_cell _ _)
  rw [e, vp_cell_i, vp_cell_i, arrV_store]
  congr 2
  funext q
  by_cases hq : q = i.toNatClampNeg <;> simp [updV, upd, hq]
theorem z_last (hexec : p.tables.exec = Jvm.exec) (hb : c.code = cc) (hK : va_K D vwCl tys s) (hP : va_P D vwCl ws H) (hD : va_D A ws) (hS : va_S A H0 H locs) (q0 t0 : Nat) {cA : ClassId} {n : Nat} {f : Nat → Int64} (ha : ws[q0]? = some (a, .inl (cA, n, .inr (.inl f)))) (ht : tys[t0]? = some (cA, .long)) {i : Int32} {x : Int64} (hin : vp_in i n) (hdg : decode cc pc = .ok (.lastore, 1))
    (kk : ∀ (H1 : Heap) (locs1 : List Loc), Aft D A H0 H ws q0 (a, .inl (cA, n, .inr (.inl (vp_updL f i.toNatClampNeg x)))) H1 locs1 → W p l e R s m args below meth c H1 locs1 cells slots Q (F0 m (pc + 1) ls rest)) : W p l e R s m args below meth c H locs cells slots Q (F0 m pc ls (.long x :: .int i :: .ref a :: rest)) := by
  refine W.last hexec hb (hP q0 _ ha) ((hK.2 t0 _ ht).1 n (fun j => .long (f j))) (fun q => by cases q) (by show ¬ (i < 0 ∨ (arrV _ _ _).slots.size ≤ _); rw [arrV_size]; exact hin) rfl rfl hdg fun H1 e z oq => ?_
  refine kk H1 _ ⟨z, hP.set hD ha ?_ oq, hS.put z oq (hD.2 q0 _ ha)⟩
  show H1[a]? = some (vp_cell _ _)
  rw [e, vp_cell_l, vp_cell_l, arrV_store]
  congr 2
  funext q
  by_cases hq : q = i.toNatClampNeg <;> simp [updV, vp_updL, hq]
theorem z_zast (hexec : p.tables.exec = Jvm.exec) (hb : c.code = cc) (hK : va_K D vwCl tys s) (hP : va_P D vwCl ws H) (hD : va_D A ws) (hS : va_S A H0 H locs) (q0 t0 : Nat) {cA : ClassId} {n : Nat} {f : Nat → Int32} (ha : ws[q0]? = some (a, .inl (cA, n, .inl f))) (ht : tys[t0]? = some (cA, .boolean)) {i : Int32} {x : Int32} (hin : vp_in i n) (hdg : decode cc pc = .ok (.bastore, 1))
    (kk : ∀ (H1 : Heap) (locs1 : List Loc), Aft D A H0 H ws q0 (a, .inl (cA, n, .inl (upd f i.toNatClampNeg (x &&& 1)))) H1 locs1 → W p l e R s m args below meth c H1 locs1 cells slots Q (F0 m (pc + 1) ls rest)) : W p l e R s m args below meth c H locs cells slots Q (F0 m pc ls (.int x :: .int i :: .ref a :: rest)) := by
  refine W.zast hexec hb (hP q0 _ ha) ((hK.2 t0 _ ht).1 n (fun j => .int (f j))) (fun q => by cases q) (by show ¬ (i < 0 ∨ (arrV _ _ _).slots.size ≤ _); rw [arrV_size]; exact hin) rfl rfl hdg fun H1 e z oq => ?_
  refine kk H1 _ ⟨z, hP.set hD ha ?_ oq, hS.put z oq (hD.2 q0 _ ha)⟩
  show H1[a]? = some (vp_cell _ _)
  rw [e, vp_cell_i, vp_cell_i, arrV_store]
  congr 2
  funext q
  by_cases hq : q = i.toNatClampNeg <;> simp [updV, upd, hq, narrow]
theorem z_bast (hexec : p.tables.exec = Jvm.exec) (hb : c.code = cc) (hK : va_K D vwCl tys s) (hP : va_P D vwCl ws H) (hD : va_D A ws) (hS : va_S A H0 H locs) (q0 t0 : Nat) {cA : ClassId} {n : Nat} {f : Nat → Int32} (ha : ws[q0]? = some (a, .inl (cA, n, .inl f))) (ht : tys[t0]? = some (cA, .byte)) {i : Int32} {x : Int32} (hin : vp_in i n) (hdg : decode cc pc = .ok (.bastore, 1))
    (kk : ∀ (H1 : Heap) (locs1 : List Loc), Aft D A H0 H ws q0 (a, .inl (cA, n, .inl (upd f i.toNatClampNeg x.toInt8.toInt32))) H1 locs1 → W p l e R s m args below meth c H1 locs1 cells slots Q (F0 m (pc + 1) ls rest)) : W p l e R s m args below meth c H locs cells slots Q (F0 m pc ls (.int x :: .int i :: .ref a :: rest)) := by
  refine W.bast hexec hb (hP q0 _ ha) ((hK.2 t0 _ ht).1 n (fun j => .int (f j))) (fun q => by cases q) (by show ¬ (i < 0 ∨ (arrV _ _ _).slots.size ≤ _); rw [arrV_size]; exact hin) rfl rfl hdg fun H1 e z oq => ?_
  refine kk H1 _ ⟨z, hP.set hD ha ?_ oq, hS.put z oq (hD.2 q0 _ ha)⟩
  show H1[a]? = some (vp_cell _ _)
  rw [e, vp_cell_i, vp_cell_i, arrV_store]
  congr 2
  funext q
  by_cases hq : q = i.toNatClampNeg <;> simp [updV, upd, hq, narrow]
end SZ
