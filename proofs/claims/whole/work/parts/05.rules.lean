/-! THE JUDGEMENT: B = (own class, bytes, locals, what it returns, is it a constructor, may cells be made here, frames left) -/
abbrev Bx : Type := String × ByteArray × Nat × Option FieldType × Bool × Bool × Nat
def wlF (j : Nat) : Int32 := [1, 1, 1, 1, 1, 1, 1, 1, 2, 3, 3, 2, 3, 3, 3, 4, 3, 3, 3, 3, 4, 5].getD j 0
def arF (j : Nat) : Int32 := [0, 0, 1, 2, 2, 1, 1, 1, 1, 3, 1].getD j 0
def apF (j : Nat) : Int64 := [0xAAAAAAAAAAAAAAAA, 0xCCCCCCCCCCCCCCCC, 0xF0F0F0F0F0F0F0F0, 0xFF00FF00FF00FF00, 0xFFFF0000FFFF0000, 0xFFFFFFFF00000000].getD j 0
def txA : String := "p    q    r    s    t    u    v    w    no   imp  and  or   not  fun  app  pair fst  snd  inl  inr  case abort"
def txB : String := "p q r s t u v w no imp and or not fun app pair fst snd inl inr case abort "
def tbA : List Int32 := [112, 32, 32, 32, 32, 113, 32, 32, 32, 32, 114, 32, 32, 32, 32, 115, 32, 32, 32, 32, 116, 32, 32, 32, 32, 117, 32, 32, 32, 32, 118, 32, 32, 32, 32, 119, 32, 32, 32, 32, 110, 111, 32, 32, 32, 105, 109, 112, 32, 32, 97, 110, 100, 32, 32, 111, 114, 32, 32, 32, 110, 111, 116, 32, 32, 102, 117, 110, 32, 32, 97, 112, 112, 32, 32, 112, 97, 105, 114, 32, 102, 115, 116, 32, 32, 115, 110, 100, 32, 32, 105, 110, 108, 32, 32, 105, 110, 114, 32, 32, 99, 97, 115, 101, 32, 97, 98, 111, 114, 116]
def tbB : List Int32 := [112, 32, 113, 32, 114, 32, 115, 32, 116, 32, 117, 32, 118, 32, 119, 32, 110, 111, 32, 105, 109, 112, 32, 97, 110, 100, 32, 111, 114, 32, 110, 111, 116, 32, 102, 117, 110, 32, 97, 112, 112, 32, 112, 97, 105, 114, 32, 102, 115, 116, 32, 115, 110, 100, 32, 105, 110, 108, 32, 105, 110, 114, 32, 99, 97, 115, 101, 32, 97, 98, 111, 114, 116, 32]
def Ex (X : Nat × (Nat → Int32)) (h0 : Nat) (sp : Nat → Nat) (s : State) (H : Heap) : Prop :=
  (∀ w ∈ NW, va_Nw w s) ∧
  (va_Z RX10 "WORD_LENGTHS" "[I" (.ref (sp 1)) (fun q => h0 ≤ q) s H ∧ va_T .int (sp 1) 22 (fun j => .int (wlF j)) (fun q => h0 ≤ q) s H) ∧
  (va_Z RX10 "ARITIES" "[I" (.ref (sp 2)) (fun q => h0 ≤ q) s H ∧ va_T .int (sp 2) 11 (fun j => .int (arF j)) (fun q => h0 ≤ q) s H) ∧
  (va_Z RX5 "ATOM_PATTERNS" "[J" (.ref (sp 3)) (fun q => h0 ≤ q) s H ∧ va_T .long (sp 3) 6 (fun j => .long (apF j)) (fun q => h0 ≤ q) s H) ∧
  (vk_R RX10 342 txA (sp 4) s ∧ vk_R RX11 187 txB (sp 5) s) ∧
  vk_S 2 [110, 74] [tbA, tbB] (fun i => sp (4 + i)) (fun i => sp (6 + i)) (fun q => h0 ≤ q) s H ∧
  va_Z RJ0 "COMPACT_STRINGS" "Z" (.int 1) (fun q => h0 ≤ q) s H ∧
  (va_Z RJ3 "SIOOBE_FORMATTER" "Ljava/util/function/BiFunction;" .null (fun q => h0 ≤ q) s H ∨ va_Z RJ3 "SIOOBE_FORMATTER" "Ljava/util/function/BiFunction;" (.ref (sp 8)) (fun q => h0 ≤ q) s H) ∧
  (va_X (sp 0) X.1 X.2 s H ∧ sp 0 < h0) ∧ va_AO RX9 s
theorem vaX_to {b L : Nat} {xs : Nat → Int32} {u U : State} {H H1 : Heap} (hvm : u.vm.Alike U.vm) (hq : H1[b]? = H[b]?) (h : va_X b L xs u H) : va_X b L xs U H1 := by
  obtain ⟨scr, h1, h2, h3, h4, h5⟩ := h
  exact ⟨scr, by rw [hq]; exact h1, State.isArrayOf_alike hvm h2, h3, h4, h5⟩
theorem Ex.to {X : Nat × (Nat → Int32)} {h0 : Nat} {sp : Nat → Nat} {s U : State} {H H1 : Heap} (hW : s.WarmedH U.vm) (hq : ∀ q, q < h0 → H1[q]? = H[q]?) (h : Ex X h0 sp s H) : Ex X h0 sp U H1 := by
  have hvm : s.vm.Alike U.vm := hW.alike
  have hk : ∀ a : Nat, a < H.size → ¬ h0 ≤ a → H1[a]? = H[a]? := fun a _ h2 => hq a (by omega)
  obtain ⟨n, ⟨z1, t1⟩, ⟨z2, t2⟩, ⟨z3, t3⟩, ⟨r1, r2⟩, k, c, f, ⟨x, xl⟩, ao⟩ := h
  refine ⟨fun w hw => ?_, ⟨(z1.moved hvm).kept hk, (t1.moved hvm).kept hk⟩, ⟨(z2.moved hvm).kept hk, (t2.moved hvm).kept hk⟩, ⟨(z3.moved hvm).kept hk, (t3.moved hvm).kept hk⟩, ⟨r1.warm hW, r2.warm hW⟩, (k.moved hvm).kept hk, (c.moved hvm).kept hk, f.imp (fun z => (z.moved hvm).kept hk) (fun z => (z.moved hvm).kept hk), ⟨vaX_to hvm (hq _ xl) x, xl⟩, ao.moved hvm⟩
  have h1 := n w hw
  have h2 := (List.mem_filter.mp hw).2
  cases w <;> first | exact h1.warmF hW | exact h1.warmM hW | (exact absurd h2 (by simp [isNest]))
theorem Ex.blind {X : Nat × (Nat → Int32)} {h0 : Nat} {sp : Nat → Nat} {s U : State} {H : Heap} (hv : U.vm = s.vm) (h : Ex X h0 sp s H) : Ex X h0 sp U H := by
  have hvm : s.vm.Alike U.vm := by rw [hv]; exact Vm.Alike.refl s.vm
  obtain ⟨n, ⟨z1, t1⟩, ⟨z2, t2⟩, ⟨z3, t3⟩, ⟨r1, r2⟩, k, c, f, ⟨x, xl⟩, ao⟩ := h
  refine ⟨fun w hw => ?_, ⟨z1.moved hvm, t1.moved hvm⟩, ⟨z2.moved hvm, t2.moved hvm⟩, ⟨z3.moved hvm, t3.moved hvm⟩, ⟨r1.same hv, r2.same hv⟩, k.moved hvm, c.moved hvm, f.imp (fun z => z.moved hvm) (fun z => z.moved hvm), ⟨vaX_to hvm rfl x, xl⟩, ao.moved hvm⟩
  have h1 := n w hw
  have h2 := (List.mem_filter.mp hw).2
  cases w <;> first | exact h1.same rfl hv.symm | (exact absurd h2 (by simp [isNest]))
def Fx (X : Nat × (Nat → Int32)) (B : Bx) (p : Program) (R : Room) (s : State) (m : MethodId) (args : Array Value) (meth : Method) (c : Code) (h0 : Nat) (sp : Nat → Nat) (cy : Nat → ClassId) (D : va_G) : Prop :=
  p.tables.exec = Jvm.exec ∧ c.code = B.2.1 ∧ c.maxLocals = B.2.2.1 ∧ meth.sig.returnType = B.2.2.2.1 ∧ meth.locks = false ∧ s.vm.findClass B.1 = some m.cls ∧ (∀ w ∈ TT, w.before args s = true) ∧ (B.2.2.2.2.1 = true → meth.name = "<init>") ∧ B.2.2.2.2.2.2 ≤ R.frames ∧ 41 * B.2.2.2.2.2.2 ≤ R.locals ∧ va_K D vwCl (tyL cy) s ∧ Ex X h0 sp s s.heap ∧ h0 ≤ s.heap.size
def Dy (B : Bx) (bc bs : Nat) (R : Room) (s : State) (h0 : Nat) (sp : Nat → Nat) (cy : Nat → ClassId) (D : va_G) (lv : List (Nat × Value)) (M : Mem) (H : Heap) (locs : List Loc) (ls : Array Slot) (cells slots mc ms : Nat) : Prop :=
  (B.2.2.2.2.2.1 = true → H.size = h0 + po M.1) ∧ okM M ∧ va_P D vwCl (pic h0 sp cy M) H ∧ va_S (fun q => h0 ≤ q) s.heap H locs ∧ lv_has ls B.2.2.1 (lv.map (mvl h0 sp)) ∧ cells + bc ≤ mc ∧ slots + bs ≤ ms ∧ mc ≤ R.cells ∧ ms ≤ R.slots
def QA (al : Bool) (h0 : Nat) (sp : Nat → Nat) (cy : Nat → ClassId) (D : va_G) (Q : Option Value → Mem → Prop) : Array Value → State → Outcome → State → Prop := fun _ st o t =>
  ∃ (v : Option Value) (M : Mem), o = .returned (v.map (mv h0 sp)) ∧ Q v M ∧ (al = true → t.heap.size = h0 + po M.1) ∧ okM M ∧ va_P D vwCl (pic h0 sp cy M) t.heap ∧ va_F (fun q => h0 ≤ q) st t
def AW (X : Nat × (Nat → Int32)) (B : Bx) (bc bs : Nat) (pc : Nat) (lv : List (Nat × Value)) (st : List Value) (M : Mem) (Q : Option Value → Mem → Prop) : Prop :=
  ∀ (p : Program) (l : Launch) (e : Env) (R : Room) (s : State) (m : MethodId) (args : Array Value) (below : List Frame) (meth : Method) (c : Code) (h0 : Nat) (sp : Nat → Nat) (cy : Nat → ClassId) (D : va_G) (H : Heap) (locs : List Loc) (ls : Array Slot) (cells slots mc ms : Nat),
    Fx X B p R s m args meth c h0 sp cy D → Dy B bc bs R s h0 sp cy D lv M H locs ls cells slots mc ms →
    W p l e R s m args below meth c H locs cells slots (MQ below (QA B.2.2.2.2.2.1 h0 sp cy D Q) args s mc ms (fun q => h0 ≤ q)) (F0 m pc ls (st.map (mv h0 sp)))
theorem mv_cat (h0 : Nat) (sp : Nat → Nat) (v : Value) : (mv h0 sp v).category = v.category := by cases v <;> rfl
theorem lk_mem : ∀ {l : List (Nat × Value)} {i : Nat} {v : Value}, l.lookup i = some v → (i, v) ∈ l := by
  intro l
  induction l with
  | nil => intro i v h; cases h
  | cons q l ih =>
    intro i v h
    obtain ⟨a, b⟩ := q
    rw [List.lookup] at h
    cases hb : (i == a) with
    | true =>
      rw [hb] at h
      have e : i = a := by simpa using hb
      subst e
      cases h
      exact List.mem_cons_self
    | false =>
      rw [hb] at h
      exact List.mem_cons_of_mem _ (ih h)
theorem lv_lk {ls : Array Slot} {n h0 : Nat} {sp : Nat → Nat} {lv : List (Nat × Value)} {i : Nat} {v : Value} (h : lv_has ls n (lv.map (mvl h0 sp))) (hl : lv.lookup i = some v) : ls[i]? = some (.val (mv h0 sp v)) := h.2.2 (mvl h0 sp (i, v)) (List.mem_map.mpr ⟨_, lk_mem hl, rfl⟩)
def lst1 (i : Nat) (v : Value) (lv : List (Nat × Value)) : List (Nat × Value) := (i, v) :: lv.filter (fun q => !(q.1 == i) && !(q.1 + 1 == i && q.2.category == 2))
def lst2 (i : Nat) (v : Value) (lv : List (Nat × Value)) : List (Nat × Value) := (i, v) :: lv.filter (fun q => !(q.1 == i) && (!(q.1 == i + 1) && !(q.1 + 1 == i && q.2.category == 2)))
theorem lst1_map (h0 : Nat) (sp : Nat → Nat) (i : Nat) (v : Value) (lv : List (Nat × Value)) : (i, mv h0 sp v) :: (lv.map (mvl h0 sp)).filter (fun q => !(q.1 == i) && !(q.1 + 1 == i && q.2.category == 2)) = (lst1 i v lv).map (mvl h0 sp) := by
  unfold lst1
  rw [List.map_cons, List.filter_map]
  congr 2
  apply List.filter_congr
  intro q _
  show (!((mvl h0 sp q).1 == i) && !((mvl h0 sp q).1 + 1 == i && (mvl h0 sp q).2.category == 2)) = _
  rw [show (mvl h0 sp q).2.category = q.2.category from mv_cat h0 sp q.2]
  rfl
theorem lst2_map (h0 : Nat) (sp : Nat → Nat) (i : Nat) (v : Value) (lv : List (Nat × Value)) : (i, mv h0 sp v) :: (lv.map (mvl h0 sp)).filter (fun q => !(q.1 == i) && (!(q.1 == i + 1) && !(q.1 + 1 == i && q.2.category == 2))) = (lst2 i v lv).map (mvl h0 sp) := by
  unfold lst2
  rw [List.map_cons, List.filter_map]
  congr 2
  apply List.filter_congr
  intro q _
  show (!((mvl h0 sp q).1 == i) && (!((mvl h0 sp q).1 == i + 1) && !((mvl h0 sp q).1 + 1 == i && (mvl h0 sp q).2.category == 2))) = _
  rw [show (mvl h0 sp q).2.category = q.2.category from mv_cat h0 sp q.2]
  rfl
section AR
variable {X : Nat × (Nat → Int32)} {B : Bx} {bc bs pc : Nat} {lv lv2 : List (Nat × Value)} {st : List Value} {M : Mem} {Q : Option Value → Mem → Prop}
theorem a_iadd {x y : Int32} (hd : decode B.2.1 pc = .ok (.iadd, 1)) (k : AW X B bc bs (pc + 1) lv (.int (x + y) :: st) M Q) : AW X B bc bs pc lv (.int y :: .int x :: st) M Q := by
  intro p l e R s m args below meth c h0 sp cy D H locs ls cells slots mc ms F Y
  exact lv_iadd F.1 F.2.1 hd (k _ _ _ _ _ _ _ _ _ _ _ _ _ _ _ _ _ _ _ _ _ F Y)
theorem a_isub {x y : Int32} (hd : decode B.2.1 pc = .ok (.isub, 1)) (k : AW X B bc bs (pc + 1) lv (.int (x - y) :: st) M Q) : AW X B bc bs pc lv (.int y :: .int x :: st) M Q := by
  intro p l e R s m args below meth c h0 sp cy D H locs ls cells slots mc ms F Y
  exact lv_isub F.1 F.2.1 hd (k _ _ _ _ _ _ _ _ _ _ _ _ _ _ _ _ _ _ _ _ _ F Y)
theorem a_imul {x y : Int32} (hd : decode B.2.1 pc = .ok (.imul, 1)) (k : AW X B bc bs (pc + 1) lv (.int (x * y) :: st) M Q) : AW X B bc bs pc lv (.int y :: .int x :: st) M Q := by
  intro p l e R s m args below meth c h0 sp cy D H locs ls cells slots mc ms F Y
  exact lv_imul F.1 F.2.1 hd (k _ _ _ _ _ _ _ _ _ _ _ _ _ _ _ _ _ _ _ _ _ F Y)
theorem a_iand {x y : Int32} (hd : decode B.2.1 pc = .ok (.iand, 1)) (k : AW X B bc bs (pc + 1) lv (.int (x &&& y) :: st) M Q) : AW X B bc bs pc lv (.int y :: .int x :: st) M Q := by
  intro p l e R s m args below meth c h0 sp cy D H locs ls cells slots mc ms F Y
  exact lv_iand F.1 F.2.1 hd (k _ _ _ _ _ _ _ _ _ _ _ _ _ _ _ _ _ _ _ _ _ F Y)
theorem a_ior {x y : Int32} (hd : decode B.2.1 pc = .ok (.ior, 1)) (k : AW X B bc bs (pc + 1) lv (.int (x ||| y) :: st) M Q) : AW X B bc bs pc lv (.int y :: .int x :: st) M Q := by
  intro p l e R s m args below meth c h0 sp cy D H locs ls cells slots mc ms F Y
  exact lv_ior F.1 F.2.1 hd (k _ _ _ _ _ _ _ _ _ _ _ _ _ _ _ _ _ _ _ _ _ F Y)
theorem a_idiv {x y : Int32} (hd : decode B.2.1 pc = .ok (.idiv, 1)) (hne : ¬ y = 0) (k : AW X B bc bs (pc + 1) lv (.int (x / y) :: st) M Q) : AW X B bc bs pc lv (.int y :: .int x :: st) M Q := by
  intro p l e R s m args below meth c h0 sp cy D H locs ls cells slots mc ms F Y
  exact lv_idiv F.1 F.2.1 hd hne (k _ _ _ _ _ _ _ _ _ _ _ _ _ _ _ _ _ _ _ _ _ F Y)
theorem a_irem {x y : Int32} (hd : decode B.2.1 pc = .ok (.irem, 1)) (hne : ¬ y = 0) (k : AW X B bc bs (pc + 1) lv (.int (x - x / y * y) :: st) M Q) : AW X B bc bs pc lv (.int y :: .int x :: st) M Q := by
  intro p l e R s m args below meth c h0 sp cy D H locs ls cells slots mc ms F Y
  exact lv_irem F.1 F.2.1 hd hne (k _ _ _ _ _ _ _ _ _ _ _ _ _ _ _ _ _ _ _ _ _ F Y)
theorem a_ladd {x y : Int64} (hd : decode B.2.1 pc = .ok (.ladd, 1)) (k : AW X B bc bs (pc + 1) lv (.long (x + y) :: st) M Q) : AW X B bc bs pc lv (.long y :: .long x :: st) M Q := by
  intro p l e R s m args below meth c h0 sp cy D H locs ls cells slots mc ms F Y
  exact lv_ladd F.1 F.2.1 hd (k _ _ _ _ _ _ _ _ _ _ _ _ _ _ _ _ _ _ _ _ _ F Y)
theorem a_lsub {x y : Int64} (hd : decode B.2.1 pc = .ok (.lsub, 1)) (k : AW X B bc bs (pc + 1) lv (.long (x - y) :: st) M Q) : AW X B bc bs pc lv (.long y :: .long x :: st) M Q := by
  intro p l e R s m args below meth c h0 sp cy D H locs ls cells slots mc ms F Y
  exact lv_lsub F.1 F.2.1 hd (k _ _ _ _ _ _ _ _ _ _ _ _ _ _ _ _ _ _ _ _ _ F Y)
theorem a_lmul {x y : Int64} (hd : decode B.2.1 pc = .ok (.lmul, 1)) (k : AW X B bc bs (pc + 1) lv (.long (x * y) :: st) M Q) : AW X B bc bs pc lv (.long y :: .long x :: st) M Q := by
  intro p l e R s m args below meth c h0 sp cy D H locs ls cells slots mc ms F Y
  exact lv_lmul F.1 F.2.1 hd (k _ _ _ _ _ _ _ _ _ _ _ _ _ _ _ _ _ _ _ _ _ F Y)
theorem a_land {x y : Int64} (hd : decode B.2.1 pc = .ok (.land, 1)) (k : AW X B bc bs (pc + 1) lv (.long (x &&& y) :: st) M Q) : AW X B bc bs pc lv (.long y :: .long x :: st) M Q := by
  intro p l e R s m args below meth c h0 sp cy D H locs ls cells slots mc ms F Y
  exact lv_land F.1 F.2.1 hd (k _ _ _ _ _ _ _ _ _ _ _ _ _ _ _ _ _ _ _ _ _ F Y)
theorem a_lor {x y : Int64} (hd : decode B.2.1 pc = .ok (.lor, 1)) (k : AW X B bc bs (pc + 1) lv (.long (x ||| y) :: st) M Q) : AW X B bc bs pc lv (.long y :: .long x :: st) M Q := by
  intro p l e R s m args below meth c h0 sp cy D H locs ls cells slots mc ms F Y
  exact lv_lor F.1 F.2.1 hd (k _ _ _ _ _ _ _ _ _ _ _ _ _ _ _ _ _ _ _ _ _ F Y)
theorem a_lxor {x y : Int64} (hd : decode B.2.1 pc = .ok (.lxor, 1)) (k : AW X B bc bs (pc + 1) lv (.long (x ^^^ y) :: st) M Q) : AW X B bc bs pc lv (.long y :: .long x :: st) M Q := by
  intro p l e R s m args below meth c h0 sp cy D H locs ls cells slots mc ms F Y
  exact lv_lxor F.1 F.2.1 hd (k _ _ _ _ _ _ _ _ _ _ _ _ _ _ _ _ _ _ _ _ _ F Y)
theorem a_ishl {x y : Int32} (hd : decode B.2.1 pc = .ok (.ishl, 1)) (k : AW X B bc bs (pc + 1) lv (.int (x <<< (y &&& 31)) :: st) M Q) : AW X B bc bs pc lv (.int y :: .int x :: st) M Q := by
  intro p l e R s m args below meth c h0 sp cy D H locs ls cells slots mc ms F Y
  exact lv_ishl F.1 F.2.1 hd (k _ _ _ _ _ _ _ _ _ _ _ _ _ _ _ _ _ _ _ _ _ F Y)
theorem a_ishr {x y : Int32} (hd : decode B.2.1 pc = .ok (.ishr, 1)) (k : AW X B bc bs (pc + 1) lv (.int (x >>> (y &&& 31)) :: st) M Q) : AW X B bc bs pc lv (.int y :: .int x :: st) M Q := by
  intro p l e R s m args below meth c h0 sp cy D H locs ls cells slots mc ms F Y
  exact lv_ishr F.1 F.2.1 hd (k _ _ _ _ _ _ _ _ _ _ _ _ _ _ _ _ _ _ _ _ _ F Y)
theorem a_iushr {x y : Int32} (hd : decode B.2.1 pc = .ok (.iushr, 1)) (k : AW X B bc bs (pc + 1) lv (.int ((x.toUInt32 >>> (y.toUInt32 &&& Int32.toUInt32 31)).toInt32) :: st) M Q) : AW X B bc bs pc lv (.int y :: .int x :: st) M Q := by
  intro p l e R s m args below meth c h0 sp cy D H locs ls cells slots mc ms F Y
  exact lv_iushr F.1 F.2.1 hd rfl (k _ _ _ _ _ _ _ _ _ _ _ _ _ _ _ _ _ _ _ _ _ F Y)
theorem a_lushr {x : Int64} {y : Int32} (hd : decode B.2.1 pc = .ok (.lushr, 1)) (k : AW X B bc bs (pc + 1) lv (.long ((x.toUInt64 >>> (y.toInt64.toUInt64 &&& Int64.toUInt64 63)).toInt64) :: st) M Q) : AW X B bc bs pc lv (.int y :: .long x :: st) M Q := by
  intro p l e R s m args below meth c h0 sp cy D H locs ls cells slots mc ms F Y
  exact lv_lushr F.1 F.2.1 hd rfl (k _ _ _ _ _ _ _ _ _ _ _ _ _ _ _ _ _ _ _ _ _ F Y)
theorem a_lshl {x : Int64} {y : Int32} (hd : decode B.2.1 pc = .ok (.lshl, 1)) (k : AW X B bc bs (pc + 1) lv (.long (x <<< (y.toInt64 &&& 63)) :: st) M Q) : AW X B bc bs pc lv (.int y :: .long x :: st) M Q := by
  intro p l e R s m args below meth c h0 sp cy D H locs ls cells slots mc ms F Y
  exact lv_lshl F.1 F.2.1 hd rfl (k _ _ _ _ _ _ _ _ _ _ _ _ _ _ _ _ _ _ _ _ _ F Y)
theorem a_i2l {x : Int32} (hd : decode B.2.1 pc = .ok (.i2l, 1)) (k : AW X B bc bs (pc + 1) lv (.long x.toInt64 :: st) M Q) : AW X B bc bs pc lv (.int x :: st) M Q := by
  intro p l e R s m args below meth c h0 sp cy D H locs ls cells slots mc ms F Y
  exact lv_i2l F.1 F.2.1 hd rfl (k _ _ _ _ _ _ _ _ _ _ _ _ _ _ _ _ _ _ _ _ _ F Y)
theorem a_l2i {x : Int64} (hd : decode B.2.1 pc = .ok (.l2i, 1)) (k : AW X B bc bs (pc + 1) lv (.int x.toInt32 :: st) M Q) : AW X B bc bs pc lv (.long x :: st) M Q := by
  intro p l e R s m args below meth c h0 sp cy D H locs ls cells slots mc ms F Y
  exact lv_l2i F.1 F.2.1 hd rfl (k _ _ _ _ _ _ _ _ _ _ _ _ _ _ _ _ _ _ _ _ _ F Y)
theorem a_i2b {x : Int32} (hd : decode B.2.1 pc = .ok (.i2b, 1)) (k : AW X B bc bs (pc + 1) lv (.int x.toInt8.toInt32 :: st) M Q) : AW X B bc bs pc lv (.int x :: st) M Q := by
  intro p l e R s m args below meth c h0 sp cy D H locs ls cells slots mc ms F Y
  exact lv_i2b F.1 F.2.1 hd rfl (k _ _ _ _ _ _ _ _ _ _ _ _ _ _ _ _ _ _ _ _ _ F Y)
theorem a_i2c {x : Int32} (hd : decode B.2.1 pc = .ok (.i2c, 1)) (k : AW X B bc bs (pc + 1) lv (.int (x.toUInt32 % 65536).toInt32 :: st) M Q) : AW X B bc bs pc lv (.int x :: st) M Q := by
  intro p l e R s m args below meth c h0 sp cy D H locs ls cells slots mc ms F Y
  exact lv_i2c F.1 F.2.1 hd rfl (k _ _ _ _ _ _ _ _ _ _ _ _ _ _ _ _ _ _ _ _ _ F Y)
theorem a_lcmp {x y : Int64} (hd : decode B.2.1 pc = .ok (.lcmp, 1)) (k : AW X B bc bs (pc + 1) lv (.int (lg_cmp x y) :: st) M Q) : AW X B bc bs pc lv (.long y :: .long x :: st) M Q := by
  intro p l e R s m args below meth c h0 sp cy D H locs ls cells slots mc ms F Y
  exact W.lcmp F.1 F.2.1 hd (k _ _ _ _ _ _ _ _ _ _ _ _ _ _ _ _ _ _ _ _ _ F Y)
theorem a_iconst {n : Int} {v : Int32} (hd : decode B.2.1 pc = .ok (.iconst n, 1)) (hv : Int32.ofInt n = v) (k : AW X B bc bs (pc + 1) lv (.int v :: st) M Q) : AW X B bc bs pc lv (st) M Q := by
  intro p l e R s m args below meth c h0 sp cy D H locs ls cells slots mc ms F Y
  exact lv_iconst F.1 F.2.1 hd hv (k _ _ _ _ _ _ _ _ _ _ _ _ _ _ _ _ _ _ _ _ _ F Y)
theorem a_bipush {n : Int} {v : Int32} (hd : decode B.2.1 pc = .ok (.bipush n, 2)) (hv : (Int8.ofInt n).toInt32 = v) (k : AW X B bc bs (pc + 2) lv (.int v :: st) M Q) : AW X B bc bs pc lv (st) M Q := by
  intro p l e R s m args below meth c h0 sp cy D H locs ls cells slots mc ms F Y
  exact lv_bipush F.1 F.2.1 hd hv (k _ _ _ _ _ _ _ _ _ _ _ _ _ _ _ _ _ _ _ _ _ F Y)
theorem a_sipush {n : Int} {v : Int32} (hd : decode B.2.1 pc = .ok (.sipush n, 3)) (hv : (Int16.ofInt n).toInt32 = v) (k : AW X B bc bs (pc + 3) lv (.int v :: st) M Q) : AW X B bc bs pc lv (st) M Q := by
  intro p l e R s m args below meth c h0 sp cy D H locs ls cells slots mc ms F Y
  exact lv_sipush F.1 F.2.1 hd hv (k _ _ _ _ _ _ _ _ _ _ _ _ _ _ _ _ _ _ _ _ _ F Y)
theorem a_lconst {n : Fin 2} {v : Int64} (hd : decode B.2.1 pc = .ok (.lconst n, 1)) (hv : Int64.ofNat (n : Nat) = v) (k : AW X B bc bs (pc + 1) lv (.long v :: st) M Q) : AW X B bc bs pc lv (st) M Q := by
  intro p l e R s m args below meth c h0 sp cy D H locs ls cells slots mc ms F Y
  exact lv_lconst F.1 F.2.1 hd hv (k _ _ _ _ _ _ _ _ _ _ _ _ _ _ _ _ _ _ _ _ _ F Y)
theorem a_iload_n {j : Fin 4} {i : Nat} {x : Int32} (hd : decode B.2.1 pc = .ok (.iload_n j, 1)) (hi : (j : Nat) = i) (hl : lv.lookup i = some (.int x)) (k : AW X B bc bs (pc + 1) lv (.int x :: st) M Q) : AW X B bc bs pc lv st M Q := by
  intro p l e R s m args below meth c h0 sp cy D H locs ls cells slots mc ms F Y
  exact lv_iload_n F.1 F.2.1 hd hi (lv_lk Y.2.2.2.2.1 hl) (k _ _ _ _ _ _ _ _ _ _ _ _ _ _ _ _ _ _ _ _ _ F Y)
theorem a_iload {i : Nat} {x : Int32} (hd : decode B.2.1 pc = .ok (.iload i, 2)) (hl : lv.lookup i = some (.int x)) (k : AW X B bc bs (pc + 2) lv (.int x :: st) M Q) : AW X B bc bs pc lv st M Q := by
  intro p l e R s m args below meth c h0 sp cy D H locs ls cells slots mc ms F Y
  exact lv_iload F.1 F.2.1 hd (lv_lk Y.2.2.2.2.1 hl) (k _ _ _ _ _ _ _ _ _ _ _ _ _ _ _ _ _ _ _ _ _ F Y)
theorem a_lload_n {j : Fin 4} {i : Nat} {x : Int64} (hd : decode B.2.1 pc = .ok (.lload_n j, 1)) (hi : (j : Nat) = i) (hl : lv.lookup i = some (.long x)) (k : AW X B bc bs (pc + 1) lv (.long x :: st) M Q) : AW X B bc bs pc lv st M Q := by
  intro p l e R s m args below meth c h0 sp cy D H locs ls cells slots mc ms F Y
  exact lv_lload_n F.1 F.2.1 hd hi (lv_lk Y.2.2.2.2.1 hl) (k _ _ _ _ _ _ _ _ _ _ _ _ _ _ _ _ _ _ _ _ _ F Y)
theorem a_lload {i : Nat} {x : Int64} (hd : decode B.2.1 pc = .ok (.lload i, 2)) (hl : lv.lookup i = some (.long x)) (k : AW X B bc bs (pc + 2) lv (.long x :: st) M Q) : AW X B bc bs pc lv st M Q := by
  intro p l e R s m args below meth c h0 sp cy D H locs ls cells slots mc ms F Y
  exact lv_lload F.1 F.2.1 hd (lv_lk Y.2.2.2.2.1 hl) (k _ _ _ _ _ _ _ _ _ _ _ _ _ _ _ _ _ _ _ _ _ F Y)
theorem a_aload_n {j : Fin 4} {i : Nat} {x : Nat} (hd : decode B.2.1 pc = .ok (.aload_n j, 1)) (hi : (j : Nat) = i) (hl : lv.lookup i = some (.ref x)) (k : AW X B bc bs (pc + 1) lv (.ref x :: st) M Q) : AW X B bc bs pc lv st M Q := by
  intro p l e R s m args below meth c h0 sp cy D H locs ls cells slots mc ms F Y
  exact lv_aload_n F.1 F.2.1 hd hi (lv_lk Y.2.2.2.2.1 hl) (k _ _ _ _ _ _ _ _ _ _ _ _ _ _ _ _ _ _ _ _ _ F Y)
theorem a_aload {i : Nat} {x : Nat} (hd : decode B.2.1 pc = .ok (.aload i, 2)) (hl : lv.lookup i = some (.ref x)) (k : AW X B bc bs (pc + 2) lv (.ref x :: st) M Q) : AW X B bc bs pc lv st M Q := by
  intro p l e R s m args below meth c h0 sp cy D H locs ls cells slots mc ms F Y
  exact lv_aload F.1 F.2.1 hd (lv_lk Y.2.2.2.2.1 hl) (k _ _ _ _ _ _ _ _ _ _ _ _ _ _ _ _ _ _ _ _ _ F Y)
theorem a_istore_n {j : Fin 4} {i : Nat} {x : Int32} (hd : decode B.2.1 pc = .ok (.istore_n j, 1)) (hi : (j : Nat) = i) (hn : i < B.2.2.1) (hl : lst1 i (.int x) lv = lv2) (k : AW X B bc bs (pc + 1) lv2 st M Q) : AW X B bc bs pc lv (.int x :: st) M Q := by
  intro p l e R s m args below meth c h0 sp cy D H locs ls cells slots mc ms F Y
  subst hl
  exact lv_istore_n F.1 F.2.1 hd hi Y.2.2.2.2.1 hn (lst1_map h0 sp i (.int x) lv) (fun ls2 hl2 => k _ _ _ _ _ _ _ _ _ _ _ _ _ _ _ _ _ _ _ _ _ F ⟨Y.1, Y.2.1, Y.2.2.1, Y.2.2.2.1, hl2, Y.2.2.2.2.2⟩)
theorem a_istore {i : Nat} {x : Int32} (hd : decode B.2.1 pc = .ok (.istore i, 2)) (hn : i < B.2.2.1) (hl : lst1 i (.int x) lv = lv2) (k : AW X B bc bs (pc + 2) lv2 st M Q) : AW X B bc bs pc lv (.int x :: st) M Q := by
  intro p l e R s m args below meth c h0 sp cy D H locs ls cells slots mc ms F Y
  subst hl
  exact lv_istore F.1 F.2.1 hd Y.2.2.2.2.1 hn (lst1_map h0 sp i (.int x) lv) (fun ls2 hl2 => k _ _ _ _ _ _ _ _ _ _ _ _ _ _ _ _ _ _ _ _ _ F ⟨Y.1, Y.2.1, Y.2.2.1, Y.2.2.2.1, hl2, Y.2.2.2.2.2⟩)
theorem a_lstore_n {j : Fin 4} {i : Nat} {x : Int64} (hd : decode B.2.1 pc = .ok (.lstore_n j, 1)) (hi : (j : Nat) = i) (hn : i + 1 < B.2.2.1) (hl : lst2 i (.long x) lv = lv2) (k : AW X B bc bs (pc + 1) lv2 st M Q) : AW X B bc bs pc lv (.long x :: st) M Q := by
  intro p l e R s m args below meth c h0 sp cy D H locs ls cells slots mc ms F Y
  subst hl
  exact lv_lstore_n F.1 F.2.1 hd hi Y.2.2.2.2.1 hn (lst2_map h0 sp i (.long x) lv) (fun ls2 hl2 => k _ _ _ _ _ _ _ _ _ _ _ _ _ _ _ _ _ _ _ _ _ F ⟨Y.1, Y.2.1, Y.2.2.1, Y.2.2.2.1, hl2, Y.2.2.2.2.2⟩)
theorem a_lstore {i : Nat} {x : Int64} (hd : decode B.2.1 pc = .ok (.lstore i, 2)) (hn : i + 1 < B.2.2.1) (hl : lst2 i (.long x) lv = lv2) (k : AW X B bc bs (pc + 2) lv2 st M Q) : AW X B bc bs pc lv (.long x :: st) M Q := by
  intro p l e R s m args below meth c h0 sp cy D H locs ls cells slots mc ms F Y
  subst hl
  exact lv_lstore F.1 F.2.1 hd Y.2.2.2.2.1 hn (lst2_map h0 sp i (.long x) lv) (fun ls2 hl2 => k _ _ _ _ _ _ _ _ _ _ _ _ _ _ _ _ _ _ _ _ _ F ⟨Y.1, Y.2.1, Y.2.2.1, Y.2.2.2.1, hl2, Y.2.2.2.2.2⟩)
theorem a_astore_n {j : Fin 4} {i : Nat} {x : Nat} (hd : decode B.2.1 pc = .ok (.astore_n j, 1)) (hi : (j : Nat) = i) (hn : i < B.2.2.1) (hl : lst1 i (.ref x) lv = lv2) (k : AW X B bc bs (pc + 1) lv2 st M Q) : AW X B bc bs pc lv (.ref x :: st) M Q := by
  intro p l e R s m args below meth c h0 sp cy D H locs ls cells slots mc ms F Y
  subst hl
  exact lv_astore_n F.1 F.2.1 hd hi Y.2.2.2.2.1 hn (lst1_map h0 sp i (.ref x) lv) (fun ls2 hl2 => k _ _ _ _ _ _ _ _ _ _ _ _ _ _ _ _ _ _ _ _ _ F ⟨Y.1, Y.2.1, Y.2.2.1, Y.2.2.2.1, hl2, Y.2.2.2.2.2⟩)
theorem a_astore {i : Nat} {x : Nat} (hd : decode B.2.1 pc = .ok (.astore i, 2)) (hn : i < B.2.2.1) (hl : lst1 i (.ref x) lv = lv2) (k : AW X B bc bs (pc + 2) lv2 st M Q) : AW X B bc bs pc lv (.ref x :: st) M Q := by
  intro p l e R s m args below meth c h0 sp cy D H locs ls cells slots mc ms F Y
  subst hl
  exact lv_astore F.1 F.2.1 hd Y.2.2.2.2.1 hn (lst1_map h0 sp i (.ref x) lv) (fun ls2 hl2 => k _ _ _ _ _ _ _ _ _ _ _ _ _ _ _ _ _ _ _ _ _ F ⟨Y.1, Y.2.1, Y.2.2.1, Y.2.2.2.1, hl2, Y.2.2.2.2.2⟩)
theorem a_iinc {i : Nat} {n : Int} {x v : Int32} (hd : decode B.2.1 pc = .ok (.iinc i n, 3)) (hx : lv.lookup i = some (.int x)) (hv : x + Int32.ofInt n = v) (hn : i < B.2.2.1) (hl : lst1 i (.int v) lv = lv2) (k : AW X B bc bs (pc + 3) lv2 st M Q) : AW X B bc bs pc lv st M Q := by
  intro p l e R s m args below meth c h0 sp cy D H locs ls cells slots mc ms F Y
  subst hl
  have hm : (i, Value.int x) ∈ lv.map (mvl h0 sp) := List.mem_map.mpr ⟨_, lk_mem hx, rfl⟩
  obtain ⟨j, hj⟩ := List.getElem?_of_mem hm
  exact lv_iinc F.1 F.2.1 hd Y.2.2.2.2.1 hj hv hn (lst1_map h0 sp i (.int v) lv) (fun ls2 hl2 => k _ _ _ _ _ _ _ _ _ _ _ _ _ _ _ _ _ _ _ _ _ F ⟨Y.1, Y.2.1, Y.2.2.1, Y.2.2.2.1, hl2, Y.2.2.2.2.2⟩)
theorem a_if_eq {x : Int32} {off : Int} (tgt : Nat) (hd : decode B.2.1 pc = .ok (.ifCond .eq off, 3)) (ht : (pc : Int) + off = (tgt : Int)) (kt : x = 0 → AW X B bc bs tgt lv st M Q) (kf : ¬ x = 0 → AW X B bc bs (pc + 3) lv st M Q) : AW X B bc bs pc lv (.int x :: st) M Q := by
  intro p l e R s m args below meth c h0 sp cy D H locs ls cells slots mc ms F Y
  exact lv_if_eq F.1 F.2.1 hd ht (fun q => kt q _ _ _ _ _ _ _ _ _ _ _ _ _ _ _ _ _ _ _ _ _ F Y) (fun q => kf q _ _ _ _ _ _ _ _ _ _ _ _ _ _ _ _ _ _ _ _ _ F Y)
theorem a_if_ne {x : Int32} {off : Int} (tgt : Nat) (hd : decode B.2.1 pc = .ok (.ifCond .ne off, 3)) (ht : (pc : Int) + off = (tgt : Int)) (kt : ¬ x = 0 → AW X B bc bs tgt lv st M Q) (kf : x = 0 → AW X B bc bs (pc + 3) lv st M Q) : AW X B bc bs pc lv (.int x :: st) M Q := by
  intro p l e R s m args below meth c h0 sp cy D H locs ls cells slots mc ms F Y
  exact lv_if_ne F.1 F.2.1 hd ht (fun q => kt q _ _ _ _ _ _ _ _ _ _ _ _ _ _ _ _ _ _ _ _ _ F Y) (fun q => kf q _ _ _ _ _ _ _ _ _ _ _ _ _ _ _ _ _ _ _ _ _ F Y)
theorem a_if_lt {x : Int32} {off : Int} (tgt : Nat) (hd : decode B.2.1 pc = .ok (.ifCond .lt off, 3)) (ht : (pc : Int) + off = (tgt : Int)) (kt : x < 0 → AW X B bc bs tgt lv st M Q) (kf : ¬ x < 0 → AW X B bc bs (pc + 3) lv st M Q) : AW X B bc bs pc lv (.int x :: st) M Q := by
  intro p l e R s m args below meth c h0 sp cy D H locs ls cells slots mc ms F Y
  exact lv_if_lt F.1 F.2.1 hd ht (fun q => kt q _ _ _ _ _ _ _ _ _ _ _ _ _ _ _ _ _ _ _ _ _ F Y) (fun q => kf q _ _ _ _ _ _ _ _ _ _ _ _ _ _ _ _ _ _ _ _ _ F Y)
theorem a_if_ge {x : Int32} {off : Int} (tgt : Nat) (hd : decode B.2.1 pc = .ok (.ifCond .ge off, 3)) (ht : (pc : Int) + off = (tgt : Int)) (kt : 0 ≤ x → AW X B bc bs tgt lv st M Q) (kf : ¬ 0 ≤ x → AW X B bc bs (pc + 3) lv st M Q) : AW X B bc bs pc lv (.int x :: st) M Q := by
  intro p l e R s m args below meth c h0 sp cy D H locs ls cells slots mc ms F Y
  exact lv_if_ge F.1 F.2.1 hd ht (fun q => kt q _ _ _ _ _ _ _ _ _ _ _ _ _ _ _ _ _ _ _ _ _ F Y) (fun q => kf q _ _ _ _ _ _ _ _ _ _ _ _ _ _ _ _ _ _ _ _ _ F Y)
theorem a_if_gt {x : Int32} {off : Int} (tgt : Nat) (hd : decode B.2.1 pc = .ok (.ifCond .gt off, 3)) (ht : (pc : Int) + off = (tgt : Int)) (kt : 0 < x → AW X B bc bs tgt lv st M Q) (kf : ¬ 0 < x → AW X B bc bs (pc + 3) lv st M Q) : AW X B bc bs pc lv (.int x :: st) M Q := by
  intro p l e R s m args below meth c h0 sp cy D H locs ls cells slots mc ms F Y
  exact lv_if_gt F.1 F.2.1 hd ht (fun q => kt q _ _ _ _ _ _ _ _ _ _ _ _ _ _ _ _ _ _ _ _ _ F Y) (fun q => kf q _ _ _ _ _ _ _ _ _ _ _ _ _ _ _ _ _ _ _ _ _ F Y)
theorem a_if_le {x : Int32} {off : Int} (tgt : Nat) (hd : decode B.2.1 pc = .ok (.ifCond .le off, 3)) (ht : (pc : Int) + off = (tgt : Int)) (kt : x ≤ 0 → AW X B bc bs tgt lv st M Q) (kf : ¬ x ≤ 0 → AW X B bc bs (pc + 3) lv st M Q) : AW X B bc bs pc lv (.int x :: st) M Q := by
  intro p l e R s m args below meth c h0 sp cy D H locs ls cells slots mc ms F Y
  exact lv_if_le F.1 F.2.1 hd ht (fun q => kt q _ _ _ _ _ _ _ _ _ _ _ _ _ _ _ _ _ _ _ _ _ F Y) (fun q => kf q _ _ _ _ _ _ _ _ _ _ _ _ _ _ _ _ _ _ _ _ _ F Y)
theorem a_icmp_eq {x y : Int32} {off : Int} (tgt : Nat) (hd : decode B.2.1 pc = .ok (.if_icmp .eq off, 3)) (ht : (pc : Int) + off = (tgt : Int)) (kt : x = y → AW X B bc bs tgt lv st M Q) (kf : ¬ x = y → AW X B bc bs (pc + 3) lv st M Q) : AW X B bc bs pc lv (.int y :: .int x :: st) M Q := by
  intro p l e R s m args below meth c h0 sp cy D H locs ls cells slots mc ms F Y
  exact lv_icmp_eq F.1 F.2.1 hd ht (fun q => kt q _ _ _ _ _ _ _ _ _ _ _ _ _ _ _ _ _ _ _ _ _ F Y) (fun q => kf q _ _ _ _ _ _ _ _ _ _ _ _ _ _ _ _ _ _ _ _ _ F Y)
theorem a_icmp_ne {x y : Int32} {off : Int} (tgt : Nat) (hd : decode B.2.1 pc = .ok (.if_icmp .ne off, 3)) (ht : (pc : Int) + off = (tgt : Int)) (kt : ¬ x = y → AW X B bc bs tgt lv st M Q) (kf : x = y → AW X B bc bs (pc + 3) lv st M Q) : AW X B bc bs pc lv (.int y :: .int x :: st) M Q := by
  intro p l e R s m args below meth c h0 sp cy D H locs ls cells slots mc ms F Y
  exact lv_icmp_ne F.1 F.2.1 hd ht (fun q => kt q _ _ _ _ _ _ _ _ _ _ _ _ _ _ _ _ _ _ _ _ _ F Y) (fun q => kf q _ _ _ _ _ _ _ _ _ _ _ _ _ _ _ _ _ _ _ _ _ F Y)
theorem a_icmp_lt {x y : Int32} {off : Int} (tgt : Nat) (hd : decode B.2.1 pc = .ok (.if_icmp .lt off, 3)) (ht : (pc : Int) + off = (tgt : Int)) (kt : x < y → AW X B bc bs tgt lv st M Q) (kf : ¬ x < y → AW X B bc bs (pc + 3) lv st M Q) : AW X B bc bs pc lv (.int y :: .int x :: st) M Q := by
  intro p l e R s m args below meth c h0 sp cy D H locs ls cells slots mc ms F Y
  exact lv_icmp_lt F.1 F.2.1 hd ht (fun q => kt q _ _ _ _ _ _ _ _ _ _ _ _ _ _ _ _ _ _ _ _ _ F Y) (fun q => kf q _ _ _ _ _ _ _ _ _ _ _ _ _ _ _ _ _ _ _ _ _ F Y)
theorem a_icmp_ge {x y : Int32} {off : Int} (tgt : Nat) (hd : decode B.2.1 pc = .ok (.if_icmp .ge off, 3)) (ht : (pc : Int) + off = (tgt : Int)) (kt : y ≤ x → AW X B bc bs tgt lv st M Q) (kf : ¬ y ≤ x → AW X B bc bs (pc + 3) lv st M Q) : AW X B bc bs pc lv (.int y :: .int x :: st) M Q := by
  intro p l e R s m args below meth c h0 sp cy D H locs ls cells slots mc ms F Y
  exact lv_icmp_ge F.1 F.2.1 hd ht (fun q => kt q _ _ _ _ _ _ _ _ _ _ _ _ _ _ _ _ _ _ _ _ _ F Y) (fun q => kf q _ _ _ _ _ _ _ _ _ _ _ _ _ _ _ _ _ _ _ _ _ F Y)
theorem a_icmp_gt {x y : Int32} {off : Int} (tgt : Nat) (hd : decode B.2.1 pc = .ok (.if_icmp .gt off, 3)) (ht : (pc : Int) + off = (tgt : Int)) (kt : y < x → AW X B bc bs tgt lv st M Q) (kf : ¬ y < x → AW X B bc bs (pc + 3) lv st M Q) : AW X B bc bs pc lv (.int y :: .int x :: st) M Q := by
  intro p l e R s m args below meth c h0 sp cy D H locs ls cells slots mc ms F Y
  exact lv_icmp_gt F.1 F.2.1 hd ht (fun q => kt q _ _ _ _ _ _ _ _ _ _ _ _ _ _ _ _ _ _ _ _ _ F Y) (fun q => kf q _ _ _ _ _ _ _ _ _ _ _ _ _ _ _ _ _ _ _ _ _ F Y)
theorem a_icmp_le {x y : Int32} {off : Int} (tgt : Nat) (hd : decode B.2.1 pc = .ok (.if_icmp .le off, 3)) (ht : (pc : Int) + off = (tgt : Int)) (kt : x ≤ y → AW X B bc bs tgt lv st M Q) (kf : ¬ x ≤ y → AW X B bc bs (pc + 3) lv st M Q) : AW X B bc bs pc lv (.int y :: .int x :: st) M Q := by
  intro p l e R s m args below meth c h0 sp cy D H locs ls cells slots mc ms F Y
  exact lv_icmp_le F.1 F.2.1 hd ht (fun q => kt q _ _ _ _ _ _ _ _ _ _ _ _ _ _ _ _ _ _ _ _ _ F Y) (fun q => kf q _ _ _ _ _ _ _ _ _ _ _ _ _ _ _ _ _ _ _ _ _ F Y)
theorem a_goto {off : Int} (tgt : Nat) (hd : decode B.2.1 pc = .ok (.goto off, 3)) (ht : (pc : Int) + off = (tgt : Int)) (k : AW X B bc bs tgt lv st M Q) : AW X B bc bs pc lv st M Q := by
  intro p l e R s m args below meth c h0 sp cy D H locs ls cells slots mc ms F Y
  exact lv_goto F.1 F.2.1 hd ht (k _ _ _ _ _ _ _ _ _ _ _ _ _ _ _ _ _ _ _ _ _ F Y)
theorem a_tableIn {dflt lo hi : Int} {offs : Array Int} {len : Nat} {x : Int32} {off : Int} (tgt : Nat) (hd : decode B.2.1 pc = .ok (.tableswitch dflt lo hi offs, len)) (h1 : ¬ x.toInt < lo) (h2 : ¬ hi < x.toInt) (ho : offs[(x.toInt - lo).toNat]? = some off) (ht : (pc : Int) + off = (tgt : Int)) (k : AW X B bc bs tgt lv st M Q) : AW X B bc bs pc lv (.int x :: st) M Q := by
  intro p l e R s m args below meth c h0 sp cy D H locs ls cells slots mc ms F Y
  exact lv_tableIn F.1 F.2.1 hd h1 h2 ho ht (k _ _ _ _ _ _ _ _ _ _ _ _ _ _ _ _ _ _ _ _ _ F Y)
theorem a_tableOut {dflt lo hi : Int} {offs : Array Int} {len : Nat} {x : Int32} (tgt : Nat) (hd : decode B.2.1 pc = .ok (.tableswitch dflt lo hi offs, len)) (h : x.toInt < lo ∨ hi < x.toInt) (ht : (pc : Int) + dflt = (tgt : Int)) (k : AW X B bc bs tgt lv st M Q) : AW X B bc bs pc lv (.int x :: st) M Q := by
  intro p l e R s m args below meth c h0 sp cy D H locs ls cells slots mc ms F Y
  exact lv_tableOut F.1 F.2.1 hd h ht (k _ _ _ _ _ _ _ _ _ _ _ _ _ _ _ _ _ _ _ _ _ F Y)
theorem a_lookup {dflt : Int} {ps : Array (Int × Int)} {len : Nat} {x : Int32} {off : Int} (tgt : Nat) (hd : decode B.2.1 pc = .ok (.lookupswitch dflt ps, len)) (hp : (ps.toList.zip (ps.toList.drop 1)).all (fun (a, next) => a.1 < next.1) = true) (ho : Op.lookupswitch.offset ps.toList dflt x.toInt = off) (ht : (pc : Int) + off = (tgt : Int)) (k : AW X B bc bs tgt lv st M Q) : AW X B bc bs pc lv (.int x :: st) M Q := by
  intro p l e R s m args below meth c h0 sp cy D H locs ls cells slots mc ms F Y
  exact lv_lookup F.1 F.2.1 hd hp ho ht (k _ _ _ _ _ _ _ _ _ _ _ _ _ _ _ _ _ _ _ _ _ F Y)
theorem a_dup {v : Value} (hd : decode B.2.1 pc = .ok (.dup, 1)) (hc : v.category = 1) (k : AW X B bc bs (pc + 1) lv (v :: v :: st) M Q) : AW X B bc bs pc lv (v :: st) M Q := by
  intro p l e R s m args below meth c h0 sp cy D H locs ls cells slots mc ms F Y
  exact lv_dup F.1 F.2.1 hd (by rw [mv_cat]; exact hc) (k _ _ _ _ _ _ _ _ _ _ _ _ _ _ _ _ _ _ _ _ _ F Y)
theorem a_pop {v : Value} (hd : decode B.2.1 pc = .ok (.pop, 1)) (hc : v.category = 1) (k : AW X B bc bs (pc + 1) lv st M Q) : AW X B bc bs pc lv (v :: st) M Q := by
  intro p l e R s m args below meth c h0 sp cy D H locs ls cells slots mc ms F Y
  exact lv_pop F.1 F.2.1 hd (by rw [mv_cat]; exact hc) (k _ _ _ _ _ _ _ _ _ _ _ _ _ _ _ _ _ _ _ _ _ F Y)
theorem a_ldc {idx : Nat} {v : Int32} (hd : decode B.2.1 pc = .ok (.ldc idx, 2)) (hc : Cond.constant B.1 idx v ∈ TT) (k : AW X B bc bs (pc + 2) lv (.int v :: st) M Q) : AW X B bc bs pc lv st M Q := by
  intro p l e R s m args below meth c h0 sp cy D H locs ls cells slots mc ms F Y
  exact lv_ldc F.1 F.2.1 F.2.2.2.2.2.1 (F.2.2.2.2.2.2.1 _ hc) hd (k _ _ _ _ _ _ _ _ _ _ _ _ _ _ _ _ _ _ _ _ _ F Y)
theorem a_ldcw {idx : Nat} {v : Int32} (hd : decode B.2.1 pc = .ok (.ldc_w idx, 3)) (hc : Cond.constant B.1 idx v ∈ TT) (k : AW X B bc bs (pc + 3) lv (.int v :: st) M Q) : AW X B bc bs pc lv st M Q := by
  intro p l e R s m args below meth c h0 sp cy D H locs ls cells slots mc ms F Y
  exact lv_ldcw F.1 F.2.1 F.2.2.2.2.2.1 (F.2.2.2.2.2.2.1 _ hc) hd (k _ _ _ _ _ _ _ _ _ _ _ _ _ _ _ _ _ _ _ _ _ F Y)
theorem a_ldc2 {idx : Nat} {v : Int64} (hd : decode B.2.1 pc = .ok (.ldc2_w idx, 3)) (hc : Cond.constantLong B.1 idx v ∈ TT) (k : AW X B bc bs (pc + 3) lv (.long v :: st) M Q) : AW X B bc bs pc lv st M Q := by
  intro p l e R s m args below meth c h0 sp cy D H locs ls cells slots mc ms F Y
  exact lv_ldc2 F.1 F.2.1 F.2.2.2.2.2.1 (F.2.2.2.2.2.2.1 _ hc) hd (k _ _ _ _ _ _ _ _ _ _ _ _ _ _ _ _ _ _ _ _ _ F Y)
theorem a_lv (hl : ∀ q ∈ lv2, lv.lookup q.1 = some q.2) (k : AW X B bc bs pc lv2 st M Q) : AW X B bc bs pc lv st M Q := by
  intro p l e R s m args below meth c h0 sp cy D H locs ls cells slots mc ms F Y
  refine k _ _ _ _ _ _ _ _ _ _ _ _ _ _ _ _ _ _ _ _ _ F ⟨Y.1, Y.2.1, Y.2.2.1, Y.2.2.2.1, ⟨Y.2.2.2.2.1.1, Y.2.2.2.2.1.2.1, fun q hq => ?_⟩, Y.2.2.2.2.2⟩
  obtain ⟨q0, h1, rfl⟩ := List.mem_map.mp hq
  exact lv_lk Y.2.2.2.2.1 (hl q0 h1)
theorem a_pc {pc2 : Nat} (h : pc = pc2) (k : AW X B bc bs pc2 lv st M Q) : AW X B bc bs pc lv st M Q := h ▸ k
end AR
