/-! RULES: cells that are made; returns; calls -/
section AM2
variable {X : Nat × (Nat → Int32)} {B : Bx} {bc bs pc : Nat} {lv lv2 : List (Nat × Value)} {st : List Value} {M : Mem} {Q : Option Value → Mem → Prop}
/-- a new object: all its fields are 0 or null -/
abbrev nO (M : Mem) (ci : Nat) : Mem := (M.1 + 1, va_up M.2.1 M.1 (.inr ci), va_up M.2.2.1 M.1 (fun _ => 0), va_up M.2.2.2.1 M.1 (fun _ => 0), va_up M.2.2.2.2 M.1 (fun _ => none))
abbrev nA (M : Mem) (t n : Nat) : Mem := (M.1 + 1, va_up M.2.1 M.1 (.inl (t, n)), va_up M.2.2.1 M.1 (fun _ => 0), va_up M.2.2.2.1 M.1 (fun _ => 0), va_up M.2.2.2.2 M.1 (fun _ => none))
theorem vup_s {α : Type} (f : Nat → α) (k : Nat) (v : α) : va_up f k v k = v := by simp [va_up]
theorem vup_n {α : Type} (f : Nat → α) {k j : Nat} (v : α) (h : j ≠ k) : va_up f k v j = f j := by simp [va_up, h]
theorem new_ne {h0 : Nat} {sp : Nat → Nat} {cy : Nat → ClassId} {M M' : Mem} {s : (Nat × Nat) ⊕ Nat} (h : M' = (M.1 + 1, va_up M.2.1 M.1 s, va_up M.2.2.1 M.1 (fun _ => 0), va_up M.2.2.2.1 M.1 (fun _ => 0), va_up M.2.2.2.2 M.1 (fun _ => none))) (b : Nat) (hb : b < M.1) : cellE h0 sp cy M' b = cellE h0 sp cy M b := by
  subst h
  have hne : b ≠ M.1 := Nat.ne_of_lt hb
  exact cell_ne (vup_n _ _ hne) (fun j => congrFun (vup_n _ _ hne) j) (fun j => congrFun (vup_n _ _ hne) j) (fun j => congrFun (vup_n _ _ hne) j)
theorem a_new {idx ci : Nat} (hd : decode B.2.1 pc = .ok (.new idx, 3)) (hal : B.2.2.2.2.2.1 = true) (hci : ci < 12) (hl : Cond.classLink B.1 idx (cNm ci) ∈ TT) (hi : Cond.instantiable (cNm ci) (cN ci) ∈ TT) (hz : Cond.initialized (cNm ci) ∈ TT) (hm : M.1 + 1 ≤ 1000000) (h8 : M.1 ≠ 86) (kk : AW X B bc bs (pc + 3) lv (.ref M.1 :: st) (nO M ci) Q) : AW X B (bc + 1) (bs + cN ci) pc lv st M Q := by
  intro p l e R s m args below meth c h0 sp cy D H locs ls cells slots mc ms F Y
  have hts := F.2.2.2.2.2.2.1
  have hK := F.2.2.2.2.2.2.2.2.2.2.1
  have hc := c_get ci hci
  have hKn := hK.1 ci _ hc
  have hsz := Y.1 hal
  refine W.newcK F.1 F.2.1 F.2.2.2.2.2.1 (hts _ hl) (hts _ hi) (hts _ hz) rfl hd (by have := Y.2.2.2.2.2.1; have := Y.2.2.2.2.2.2.2.1; omega) (by have := Y.2.2.2.2.2.2.1; have := Y.2.2.2.2.2.2.2.2; omega) hKn.2.1 hsz fun H1 kC hkC e1 z1 o1 => ?_
  have hkept : ∀ (k : Nat) (x : Nat × va_E), (pic h0 sp cy M)[k]? = some x → H1[x.1]? = H[x.1]? := fun k x hx => o1 x.1 (by have := (Y.2.2.1 k x hx).lt; omega)
  have hcell : cellE h0 sp cy (nO M ci) M.1 = .inr (ci, (List.range (cN ci)).map (fv h0 sp (nO M ci) ci M.1)) := cell_o (vup_s _ _ _)
  have hfs : ∀ j, j < cN ci → defaultValue (cTy ci j) = vp_V ((List.range (cN ci)).map (fv h0 sp (nO M ci) ci M.1)) j := by
    intro j hj
    unfold vp_V
    rw [List.getD_eq_getElem?_getD, List.getElem?_map, List.getElem?_range hj]
    show defaultValue (cTy ci j) = fv h0 sp (nO M ci) ci M.1 j
    unfold fv fK
    have ei : (nO M ci).2.2.1 M.1 j = 0 := congrFun (vup_s _ _ _) j
    have ej : (nO M ci).2.2.2.1 M.1 j = 0 := congrFun (vup_s _ _ _) j
    have er : (nO M ci).2.2.2.2 M.1 j = none := congrFun (vup_s _ _ _) j
    rw [ei, ej, er]
    cases h : cTy ci j <;> first | rfl | (exfalso; exact absurd h (c_nof ci hci j hj).1) | (exfalso; exact absurd h (c_nof ci hci j hj).2)
  have hP1 : va_P D vwCl (pic h0 sp cy (nO M ci)) H1 := by
    rw [← pic_push (M := M) h8 rfl hcell (new_ne rfl)]
    refine (Y.2.2.1.kept hkept).app (fun k x hx => ?_)
    have hz : k < 1 := (List.getElem?_eq_some_iff.mp hx).1
    rw [show k = 0 by omega] at hx
    cases hx
    exact ⟨_, hc, (u_born (cTy ci) hts (c_in ci hci) hKn hkC e1 (c_ty ci hci)).to hfs⟩
  have hr : mv h0 sp (.ref M.1) = .ref (h0 + po M.1) := by
    show Value.ref (rA h0 sp M.1) = _
    rw [show rA h0 sp M.1 = h0 + po M.1 from if_pos (by omega)]
  have k1 := kk p l e R s m args below meth c h0 sp cy D H1 locs ls (cells + 1) (slots + cN ci) mc ms F ⟨fun _ => by show H1.size = h0 + po (M.1 + 1); rw [po_s h8]; omega, ok_new Y.2.1 h8 hm, hP1, ⟨Nat.le_trans Y.2.2.2.1.1 (by omega), fun q h1 h2 => (o1 q (by have : ¬ h0 ≤ q := h2; omega)).trans (Y.2.2.2.1.2.1 q h1 h2), Y.2.2.2.1.2.2⟩, Y.2.2.2.2.1, by have := Y.2.2.2.2.2.1; omega, by have := Y.2.2.2.2.2.2.1; omega, Y.2.2.2.2.2.2.2⟩
  rw [List.map_cons, hr] at k1
  exact k1
theorem a_newarray {t n : Nat} {at_ : ArrayType} {ty : FieldType} {x : Int32} (ht : (t = 0 ∧ at_ = .byte ∧ ty = .byte) ∨ (t = 1 ∧ at_ = .int ∧ ty = .int) ∨ (t = 2 ∧ at_ = .long ∧ ty = .long) ∨ (t = 0 ∧ at_ = .byte ∧ ty = .byte)) (hd : decode B.2.1 pc = .ok (.newarray at_, 2)) (hal : B.2.2.2.2.2.1 = true) (hl : Cond.arrayClass ty ∈ TT) (hn : ¬ x < 0) (hx : x.toNatClampNeg = n) (hb : n ≤ 60000) (hm : M.1 + 1 ≤ 1000000) (h8 : M.1 ≠ 86) (kk : AW X B bc bs (pc + 2) lv (.ref M.1 :: st) (nA M t n) Q) : AW X B (bc + 1) (bs + n) pc lv (.int x :: st) M Q := by
  intro p l e R s m args below meth c h0 sp cy D H locs ls cells slots mc ms F Y
  have hts := F.2.2.2.2.2.2.1
  have hK := F.2.2.2.2.2.2.2.2.2.2.1
  have hsz := Y.1 hal
  have hty : newarray.typeOf at_ = ty := by rcases ht with ⟨-, rfl, rfl⟩ | ⟨-, rfl, rfl⟩ | ⟨-, rfl, rfl⟩ | ⟨-, rfl, rfl⟩ <;> rfl
  have hcb : componentBytes ty ≤ 8 := by rcases ht with ⟨-, rfl, rfl⟩ | ⟨-, rfl, rfl⟩ | ⟨-, rfl, rfl⟩ | ⟨-, rfl, rfl⟩ <;> decide
  have htl : (tyL cy)[t]? = some (cy t, ty) := by rcases ht with ⟨rfl, rfl, rfl⟩ | ⟨rfl, rfl, rfl⟩ | ⟨rfl, rfl, rfl⟩ | ⟨rfl, rfl, rfl⟩ <;> rfl
  refine va_newaK F.1 F.2.1 (by rw [hty]; exact hts _ hl) rfl hd rfl hn hx (by rw [hty]; have := Nat.mul_le_mul hb hcb; omega) (by have := Y.2.2.2.2.2.1; have := Y.2.2.2.2.2.2.2.1; omega) (by have := Y.2.2.2.2.2.2.1; have := Y.2.2.2.2.2.2.2.2; omega) hsz fun H1 cA e1 z1 o1 hAr hNm => ?_
  have hcA : cA = cy t := by
    have h2 := (hK.2 t _ htl).2
    rw [hty] at hNm
    rcases ht with ⟨rfl, rfl, rfl⟩ | ⟨rfl, rfl, rfl⟩ | ⟨rfl, rfl, rfl⟩ | ⟨rfl, rfl, rfl⟩ <;> exact Option.some.inj (hNm.symm.trans h2)
  subst hcA
  have hkept : ∀ (k : Nat) (y : Nat × va_E), (pic h0 sp cy M)[k]? = some y → H1[y.1]? = H[y.1]? := fun k y hy => o1 y.1 (by have := (Y.2.2.1 k y hy).lt; omega)
  have hcell : cellE h0 sp cy (nA M t n) M.1 = .inl (cy t, ac h0 sp (nA M t n) t M.1 n) := cell_a (vup_s _ _ _)
  have hP1 : va_P D vwCl (pic h0 sp cy (nA M t n)) H1 := by
    rw [← pic_push (M := M) h8 rfl hcell (new_ne rfl)]
    refine (Y.2.2.1.kept hkept).app (fun k y hy => ?_)
    have hz : k < 1 := (List.getElem?_eq_some_iff.mp hy).1
    rw [show k = 0 by omega] at hy
    cases hy
    show H1[h0 + po M.1]? = some (vp_cell (cy t) (ac h0 sp (nA M t n) t M.1 n))
    rw [e1, hty]
    have ei : (nA M t n).2.2.1 M.1 = fun _ => 0 := vup_s _ _ _
    have ej : (nA M t n).2.2.2.1 M.1 = fun _ => 0 := vup_s _ _ _
    unfold ac
    rw [ei, ej]
    rcases ht with ⟨rfl, rfl, rfl⟩ | ⟨rfl, rfl, rfl⟩ | ⟨rfl, rfl, rfl⟩ | ⟨rfl, rfl, rfl⟩ <;> rfl
  have hr : mv h0 sp (.ref M.1) = .ref (h0 + po M.1) := by
    show Value.ref (rA h0 sp M.1) = _
    rw [show rA h0 sp M.1 = h0 + po M.1 from if_pos (by omega)]
  have k1 := kk p l e R s m args below meth c h0 sp cy D H1 locs ls (cells + 1) (slots + n) mc ms F ⟨fun _ => by show H1.size = h0 + po (M.1 + 1); rw [po_s h8]; omega, ok_new Y.2.1 h8 hm, hP1, ⟨Nat.le_trans Y.2.2.2.1.1 (by omega), fun q h1 h2 => (o1 q (by have : ¬ h0 ≤ q := h2; omega)).trans (Y.2.2.2.1.2.1 q h1 h2), Y.2.2.2.1.2.2⟩, Y.2.2.2.2.1, by have := Y.2.2.2.2.2.1; omega, by have := Y.2.2.2.2.2.2.1; omega, Y.2.2.2.2.2.2.2⟩
  rw [List.map_cons, hr] at k1
  exact k1
/-- the number that is no cell is passed over -/
theorem a_skip (h : M.1 = 86) (k : AW X B bc bs pc lv st (nO M 99) Q) : AW X B bc bs pc lv st M Q := by
  intro p l e R s m args below meth c h0 sp cy D H locs ls cells slots mc ms F Y
  have hp : pic h0 sp cy M = pic h0 sp cy (nO M 99) := pic_skip h (by show M.1 + 1 = 87; rw [h]) (fun b hb => new_ne rfl b (by rw [h]; exact hb))
  have e1 : po M.1 = po (nO M 99).1 := by
    show po M.1 = po (M.1 + 1)
    rw [h]
    rfl
  refine k p l e R s m args below meth c h0 sp cy D H locs ls cells slots mc ms F ⟨fun q => by rw [← e1]; exact Y.1 q, ⟨by show M.1 + 1 ≤ 1000000; omega, fun _ => ?_⟩, by rw [← hp]; exact Y.2.2.1, Y.2.2.2⟩
  show va_up M.2.1 M.1 (.inr 99) 86 = _
  rw [h, vup_s]
end AM2
