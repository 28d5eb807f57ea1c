/-! RETURNS, CONTRACTS, CALLS -/
def PA (X : Nat × (Nat → Int32)) (al : Bool) (h0 : Nat) (sp : Nat → Nat) (cy : Nat → ClassId) (D : va_G) (As : List Value) (M : Mem) : Array Value → State → Prop := va_Pc (As.map (mv h0 sp)) (fun U => (al = true → U.heap.size = h0 + po M.1) ∧ okM M ∧ va_P D vwCl (pic h0 sp cy M) U.heap ∧ va_K D vwCl (tyL cy) U ∧ Ex X h0 sp U U.heap ∧ h0 ≤ U.heap.size)
/-- a method's contract over the abstract machine: with these arguments and this memory it returns, and Q holds of the answer and of the memory behind it -/
def AM (y : MethodName) (cc : ByteArray) (nL : Nat) (ret : Option FieldType) (al : Bool) (fr mc ms : Nat) (X : Nat × (Nat → Int32)) (As : List Value) (M : Mem) (Q : Option Value → Mem → Prop) : Prop :=
  ∀ (l : Launch) (h0 : Nat) (sp : Nat → Nat) (cy : Nat → ClassId) (D : va_G), Met l y (.code y cc nL ret :: TT) { frames := fr, cells := mc, slots := ms, locals := 41 * fr } (PA X al h0 sp cy D As M) (QA al h0 sp cy D Q) mc ms (fun q => h0 ≤ q)
theorem args_map (h0 : Nat) (sp : Nat → Nat) : ∀ (As : List Value) (i : Nat), lv_args i (As.map (mv h0 sp)) = (lv_args i As).map (mvl h0 sp) := by
  intro As
  induction As with
  | nil => intro i; rfl
  | cons v As ih =>
    intro i
    show (i, mv h0 sp v) :: lv_args (if (mv h0 sp v).category = 2 then i + 2 else i + 1) (As.map (mv h0 sp)) = _
    rw [mv_cat, ih]
    rfl
theorem sl_len (h0 : Nat) (sp : Nat → Nat) : ∀ As : List Value, (lg_sl (As.map (mv h0 sp))).length = (lg_sl As).length := by
  intro As
  induction As with
  | nil => rfl
  | cons v As ih =>
    have e : ∀ (w : Value) (l : List Value), (lg_sl (w :: l)).length = (if w.category = 2 then 2 else 1) + (lg_sl l).length := by
      intro w l
      unfold lg_sl
      rw [List.flatMap_cons, List.length_append]
      by_cases h : w.category = 2 <;> simp [h]
    rw [List.map_cons, e, e, ih, mv_cat]
theorem AM.of {y : MethodName} {cc : ByteArray} {nL : Nat} {ret : Option FieldType} (ini : Bool) {al : Bool} {fr mc ms : Nat} {X : Nat × (Nat → Int32)} {As : List Value} {M : Mem} {Q : Option Value → Mem → Prop} (hy : plainName y.cls = true) (hini : ini = true → y.name = "<init>") (hn : (lg_sl As).length ≤ nL) (h : AW X (y.cls, cc, nL, ret, ini, al, fr) mc ms 0 (lv_args 0 As) [] M Q) : AM y cc nL ret al fr mc ms X As M Q := by
  intro l h0 sp cy D
  refine Met.ofW (cc := cc) (maxL := nL) (ret := ret) hy rfl ?_
  intro p e s m args below meth c s₁ B hml hv
  obtain ⟨rfl, hsz, hm, hP, hK, hE, hh⟩ := hv
  have hts := atoms_spec (ws := Cond.code y cc nL ret :: TT) B.pre
  have hown : s.vm.findClass y.cls = some m.cls := findClass_of_methodNamed B.named
  have hl := lv_entry (As.map (mv h0 sp)) (n := nL) (by rw [sl_len]; exact hn)
  rw [lg_entry_eq]
  rw [args_map] at hl
  exact h p l e _ s m _ below meth c h0 sp cy D s.heap [] _ 0 0 mc ms ⟨B.exec, B.bytes, hml, B.returns, B.notSynchronized, hown, fun w hw => hts w (List.mem_cons_of_mem _ hw), fun hi => (name_of_methodNamed B.named B.method).1.trans (hini hi), Nat.le_refl _, Nat.le_refl _, hK, hE, hh⟩ ⟨hsz, hm, hP, va_S.rf, hl, by omega, by omega, Nat.le_refl _, Nat.le_refl _⟩
section AR2
variable {X : Nat × (Nat → Int32)} {B : Bx} {bc bs pc : Nat} {lv lv2 : List (Nat × Value)} {st : List Value} {M : Mem} {Q : Option Value → Mem → Prop}
theorem a_iret {x : Int32} (hd : decode B.2.1 pc = .ok (.ireturn, 1)) (hr : B.2.2.2.1 = some .int) (hq : Q (some (.int x)) M) : AW X B bc bs pc lv [.int x] M Q := by
  intro p l e R s m args below meth c h0 sp cy D H locs ls cells slots mc ms F Y
  refine W.widen (k := mc) (n := ms) (by have := Y.2.2.2.2.2.1; omega) (by have := Y.2.2.2.2.2.2.1; omega) ?_
  exact W.iret F.1 F.2.1 (F.2.2.2.1.trans hr) (fun t ht _ => ⟨some (.int x), M, rfl, hq, fun h => by rw [ht]; exact Y.1 h, Y.2.1, by rw [ht]; exact Y.2.2.1, Y.2.2.2.1.F ht⟩) Y.2.2.2.1.2.2 hd F.2.2.2.2.1
theorem a_zret {x : Int32} {ty : FieldType} (hd : decode B.2.1 pc = .ok (.ireturn, 1)) (hr : B.2.2.2.1 = some ty) (hn : narrow ty (.int x) = .int x) (hq : Q (some (.int x)) M) : AW X B bc bs pc lv [.int x] M Q := by
  intro p l e R s m args below meth c h0 sp cy D H locs ls cells slots mc ms F Y
  refine W.widen (k := mc) (n := ms) (by have := Y.2.2.2.2.2.1; omega) (by have := Y.2.2.2.2.2.2.1; omega) ?_
  exact W.zret F.1 F.2.1 (F.2.2.2.1.trans hr) hn (fun t ht _ => ⟨some (.int x), M, rfl, hq, fun h => by rw [ht]; exact Y.1 h, Y.2.1, by rw [ht]; exact Y.2.2.1, Y.2.2.2.1.F ht⟩) Y.2.2.2.1.2.2 hd F.2.2.2.2.1
theorem a_lret {x : Int64} (hd : decode B.2.1 pc = .ok (.lreturn, 1)) (hr : B.2.2.2.1 = some .long) (hq : Q (some (.long x)) M) : AW X B bc bs pc lv [.long x] M Q := by
  intro p l e R s m args below meth c h0 sp cy D H locs ls cells slots mc ms F Y
  refine W.widen (k := mc) (n := ms) (by have := Y.2.2.2.2.2.1; omega) (by have := Y.2.2.2.2.2.2.1; omega) ?_
  exact W.lret F.1 F.2.1 (F.2.2.2.1.trans hr) (fun t ht _ => ⟨some (.long x), M, rfl, hq, fun h => by rw [ht]; exact Y.1 h, Y.2.1, by rw [ht]; exact Y.2.2.1, Y.2.2.2.1.F ht⟩) Y.2.2.2.1.2.2 hd F.2.2.2.2.1
theorem a_vret (hd : decode B.2.1 pc = .ok (.return_, 1)) (hr : B.2.2.2.1 = none) (hq : Q none M) : AW X B bc bs pc lv [] M Q := by
  intro p l e R s m args below meth c h0 sp cy D H locs ls cells slots mc ms F Y
  refine W.widen (k := mc) (n := ms) (by have := Y.2.2.2.2.2.1; omega) (by have := Y.2.2.2.2.2.2.1; omega) ?_
  exact W.vret F.1 F.2.1 (F.2.2.2.1.trans hr) (fun t ht _ => ⟨none, M, rfl, hq, fun h => by rw [ht]; exact Y.1 h, Y.2.1, by rw [ht]; exact Y.2.2.1, Y.2.2.2.1.F ht⟩) Y.2.2.2.1.2.2 hd F.2.2.2.2.1
theorem a_aret {r : Nat} {ty : FieldType} (hd : decode B.2.1 pc = .ok (.areturn, 1)) (hr : B.2.2.2.1 = some ty) (hrt : (∃ n, ty = .object n) ∨ ∃ t, ty = .array t) (hq : Q (some (.ref r)) M) : AW X B bc bs pc lv [.ref r] M Q := by
  intro p l e R s m args below meth c h0 sp cy D H locs ls cells slots mc ms F Y
  refine W.widen (k := mc) (n := ms) (by have := Y.2.2.2.2.2.1; omega) (by have := Y.2.2.2.2.2.2.1; omega) ?_
  exact W.aret F.1 F.2.1 (F.2.2.2.1.trans hr) hrt (Or.inr ⟨_, rfl⟩) (fun t ht _ => ⟨some (.ref r), M, rfl, hq, fun h => by rw [ht]; exact Y.1 h, Y.2.1, by rw [ht]; exact Y.2.2.1, Y.2.2.2.1.F ht⟩) Y.2.2.2.1.2.2 hd F.2.2.2.2.1
/-- the weaker end -/
theorem AW.mono {Q' : Option Value → Mem → Prop} (h : AW X B bc bs pc lv st M Q) (hq : ∀ v M, Q v M → Q' v M) : AW X B bc bs pc lv st M Q' := by
  intro p l e R s m args below meth c h0 sp cy D H locs ls cells slots mc ms F Y T hT X1
  obtain ⟨t, h1, o, h2, h3, ⟨v, M1, g1, g2, g3⟩, h4⟩ := h p l e R s m args below meth c h0 sp cy D H locs ls cells slots mc ms F Y T hT X1
  exact ⟨t, h1, o, h2, h3, ⟨v, M1, g1, hq _ _ g2, g3⟩, h4⟩
theorem PA_blind {al : Bool} {h0 : Nat} {sp : Nat → Nat} {cy : Nat → ClassId} {D : va_G} {As : List Value} : FrameBlind (PA X al h0 sp cy D As M) := fun a U g mk q => ⟨q.1, q.2.1, q.2.2.1, q.2.2.2.1, va_K.moved (u := U) (U := U.calling g mk a) (Vm.Alike.refl U.vm) q.2.2.2.2.1, (Ex.blind (s := U) (U := U.calling g mk a) (H := U.heap) rfl q.2.2.2.2.2.1 : Ex X h0 sp (U.calling g mk a) U.heap), q.2.2.2.2.2.2⟩
/-- behind any call -/
theorem a_after {mc ms : Nat} {p : Program} {l : Launch} {e : Env} {R : Room} {s : State} {m : MethodId} {args : Array Value} {below : List Frame} {meth : Method} {c : Code} {h0 : Nat} {sp : Nat → Nat} {cy : Nat → ClassId} {D : va_G} {H : Heap} {locs : List Loc} {ls : Array Slot} {cells slots mc0 ms0 : Nat} {a0 : Array Value} {st0 : List Value} {Q1 : Option Value → Mem → Prop}
    (F : Fx X B p R s m args meth c h0 sp cy D) (Y : Dy B (bc + mc) (bs + ms) R s h0 sp cy D lv M H locs ls cells slots mc0 ms0)
    (hr : va_Run p l e R s m args below meth c H locs cells slots mc ms (F0 m pc ls st0) (st.map (mv h0 sp)) (QA B.2.2.2.2.2.1 h0 sp cy D Q1 a0) (fun q => h0 ≤ q))
    (kk : ∀ v M', Q1 v M' → AW X B bc bs (pc + 3) lv (v.toList ++ st) M' Q) : W p l e R s m args below meth c H locs cells slots (MQ below (QA B.2.2.2.2.2.1 h0 sp cy D Q) args s mc0 ms0 (fun q => h0 ≤ q)) (F0 m pc ls st0) := by
  intro T hT X1
  obtain ⟨v, st₀, t, T', L, g0, X', hL, e1, e2, ⟨w, M1, hv, hq, hz, hm, hP, hF⟩, stp⟩ := hr T hT X1
  have hv : v = w.map (mv h0 sp) := Outcome.returned.inj hv
  subst hv
  have k1 := kk w M1 hq p l e R s m args below meth c h0 sp cy D T'.heap (locs ++ L) ls (cells + mc) (slots + ms) mc0 ms0 F ⟨fun h => by rw [e1]; exact hz h, hm, by rw [e1]; exact hP, ⟨Nat.le_trans Y.2.2.2.1.1 (by rw [e1, ← g0]; exact hF.1), fun q h1 h2 => by rw [e1, hF.2 q (by rw [g0]; exact Nat.lt_of_lt_of_le h1 Y.2.2.2.1.1) h2, g0]; exact Y.2.2.2.1.2.1 q h1 h2, fun q hq => by
      rcases List.mem_append.mp hq with h | h
      · exact Y.2.2.2.1.2.2 q h
      · exact hL q h⟩, Y.2.2.2.2.1, by have := Y.2.2.2.2.2.1; omega, by have := Y.2.2.2.2.2.2.1; omega, Y.2.2.2.2.2.2.2⟩
  obtain ⟨t2, a1, b1⟩ := k1 T' rfl X'
  refine ⟨t2, stp t2 ?_, b1⟩
  have e3 : (w.map (mv h0 sp)).toList ++ st.map (mv h0 sp) = (w.toList ++ st).map (mv h0 sp) := by cases w <;> rfl
  rw [e3]
  exact a1
/-- the callee's start, out of the caller's state -/
theorem PA_at {p : Program} {R : Room} {s U : State} {m : MethodId} {args : Array Value} {meth : Method} {c : Code} {h0 : Nat} {sp : Nat → Nat} {cy : Nat → ClassId} {D : va_G} {H : Heap} {locs : List Loc} {ls : Array Slot} {cells slots mc ms bc bs : Nat} {As : List Value} (F : Fx X B p R s m args meth c h0 sp cy D) (Y : Dy B bc bs R s h0 sp cy D lv M H locs ls cells slots mc ms) (hU : U.heap = H) (hW : s.WarmedH U.vm) : PA X B.2.2.2.2.2.1 h0 sp cy D As M (As.map (mv h0 sp)).toArray U := by
  refine ⟨rfl, fun h => by rw [hU]; exact Y.1 h, Y.2.1, by rw [hU]; exact Y.2.2.1, va_K.moved hW.alike F.2.2.2.2.2.2.2.2.2.2.1, ?_, by rw [hU]; exact Nat.le_trans F.2.2.2.2.2.2.2.2.2.2.2.2 Y.2.2.2.1.1⟩
  have h1 := F.2.2.2.2.2.2.2.2.2.2.2.1
  rw [hU]
  exact h1.to hW (fun q hq => Y.2.2.2.1.2.1 q (Nat.lt_of_lt_of_le hq F.2.2.2.2.2.2.2.2.2.2.2.2) (by omega))
/-- the words of a method that the tables hold -/
def MW (y : MethodName) (cc : ByteArray) (nL n : Nat) (ret : Option FieldType) : Prop := Cond.code y cc nL ret ∈ TT ∧ Cond.initialized y.cls ∈ TT ∧ (y.cls ≠ "java/lang/invoke/MethodHandle" ∧ y.cls ≠ "java/lang/invoke/VarHandle") ∧ (parseMethodDescriptor y.desc).map (fun d => d.parameters.length) = some n ∧ nL ≤ 22
theorem MW.cb {y : MethodName} {cc : ByteArray} {nL n : Nat} {ret : Option FieldType} (h : MW y cc nL n ret) {p : Program} {R : Room} {s : State} {m : MethodId} {args : Array Value} {meth : Method} {c : Code} {h0 : Nat} {sp : Nat → Nat} {cy : Nat → ClassId} {D : va_G} {fr mc ms idx : Nat} (F : Fx X B p R s m args meth c h0 sp cy D) (hfr : B.2.2.2.2.2.2 = fr + 1) :
    (∀ w ∈ (Cond.code y cc nL ret :: TT), ∀ (a' : Array Value) (U : State), s.WarmedH U.vm → w.before a' U = true) ∧ (Cond.code y cc nL ret).before args s = true ∧ (Cond.initialized y.cls).before args s = true ∧ (∀ sig, parseMethodDescriptor y.desc = some sig → n = sig.parameters.length) ∧ fr + 1 ≤ R.frames ∧ 8 + (nL + 11) + 41 * fr ≤ R.locals := by
  obtain ⟨h1, h2, h3, h4, h5⟩ := h
  have hts := F.2.2.2.2.2.2.1
  have hG : GoodIn TT (Cond.code y cc nL ret :: TT) := by
    intro w hw
    rcases List.mem_cons.mp hw with rfl | hw
    · exact ⟨h1, tt_good _ h1⟩
    · exact ⟨hw, tt_good _ hw⟩
  refine ⟨pay_in hts hG, hts _ h1, hts _ h2, fun sig h => ?_, ?_, ?_⟩
  · rw [h] at h4
    exact (Option.some.inj h4).symm
  · have := F.2.2.2.2.2.2.2.2.1
    omega
  · have := F.2.2.2.2.2.2.2.2.2.1
    omega
theorem len_map (h0 : Nat) (sp : Nat → Nat) (As : List Value) : (As.map (mv h0 sp)).length = As.length := List.length_map _
theorem cat_map (h0 : Nat) (sp : Nat → Nat) : ∀ As : List Value, ((As.map (mv h0 sp)).map fun v => v.category).sum = (As.map fun v => v.category).sum := by
  intro As
  rw [List.map_map]
  congr 1
  exact List.map_congr_left (fun v _ => mv_cat h0 sp v)
/-- a call of an instance method on a cell of ours -/
theorem a_callV {y : MethodName} {cc : ByteArray} {nL n fr mc ms idx ci a : Nat} {ret : Option FieldType} {As : List Value} {Q1 : Option Value → Mem → Prop} (nst : Bool) (hd : decode B.2.1 pc = .ok (.invokevirtual idx, 3)) (hw : MW y cc nL n ret) (hfr : B.2.2.2.2.2.2 = fr + 1) (hlk : (nst = false ∧ Cond.methodLink B.1 idx y ∈ TT) ∨ (nst = true ∧ Cond.methodLinkNest B.1 idx y "ProofTrim" ∈ NW)) (hin : Cond.instanceMethod y ∈ TT) (hse : Cond.selects (cNm ci) y y ∈ TT) (hci : ci < 12) (ha : a < M.1) (hs : M.2.1 a = .inr ci) (hn : As.length = n) (hst : (st.map fun v => v.category).sum ≤ 8)
    (hM : AM y cc nL ret B.2.2.2.2.2.1 fr mc ms X (.ref a :: As) M Q1) (kk : ∀ v M', Q1 v M' → AW X B bc bs (pc + 3) lv (v.toList ++ st) M' Q) : AW X B (bc + mc) (bs + ms) pc lv (As.reverse ++ .ref a :: st) M Q := by
  intro p l e R s m args below meth c h0 sp cy D H locs ls cells slots mc0 ms0 F Y
  have hts := F.2.2.2.2.2.2.1
  obtain ⟨b1, b2, b3, b4, b5, b6⟩ := hw.cb (mc := mc) (ms := ms) (idx := idx) F hfr
  have e0 : (As.reverse ++ .ref a :: st).map (mv h0 sp) = (As.map (mv h0 sp)).reverse ++ .ref (h0 + po a) :: st.map (mv h0 sp) := by
    rw [List.map_append, List.map_reverse, List.map_cons, mv_ref ha Y.2.1]
  have e1 : (Value.ref a :: As).map (mv h0 sp) = .ref (h0 + po a) :: As.map (mv h0 sp) := by rw [List.map_cons, mv_ref ha Y.2.1]
  rw [e0]
  have hpv : PreV s H (cNm ci) (h0 + po a) (PA X B.2.2.2.2.2.1 h0 sp cy D (.ref a :: As) M) (As.map (mv h0 sp)) := by
    refine ⟨PA_blind, va_recv F.2.2.2.2.2.2.2.2.2.2.1 Y.2.2.1 (c_get ci hci) (q0 := po a) (by rw [pic_at ha (ok_o Y.2.1 ha hs hci), cell_o hs]), fun U hU hW => ?_⟩
    have := PA_at (As := .ref a :: As) F Y hU hW
    rw [e1] at this
    exact this
  have hf : cells + mc ≤ R.cells ∧ slots + ms ≤ R.slots := by
    have := Y.2.2.2.2.2.1; have := Y.2.2.2.2.2.2.1; have := Y.2.2.2.2.2.2.2.1; have := Y.2.2.2.2.2.2.2.2
    constructor <;> omega
  rcases hlk with ⟨-, hlk⟩ | ⟨-, hlk⟩
  · exact a_after F Y (va_runV ⟨F.1, F.2.1, F.2.2.1, F.2.2.2.2.2.1, hts⟩ (hM l h0 sp cy D) ⟨⟨rfl, rfl, b5, b6, b1, List.mem_cons_self, b2, b3, hw.2.2.1, b4, hts _ hlk⟩, hts _ hin, hts _ hse⟩ hpv rfl (by rw [len_map]; exact hn) Y.2.2.2.2.1.1 rfl (lv_room (by rw [cat_map]; exact hst)) hd hf) kk
  · exact a_after F Y (va_runVN ⟨F.1, F.2.1, F.2.2.1, F.2.2.2.2.2.1, hts⟩ (hM l h0 sp cy D) ⟨⟨⟨rfl, rfl, b5, b6, b1, List.mem_cons_self⟩, b2, b3, hw.2.2.1, b4, va_Nw.use rfl (F.2.2.2.2.2.2.2.2.2.2.2.1.1 _ hlk)⟩, hts _ hin, hts _ hse⟩ hpv rfl (by rw [len_map]; exact hn) Y.2.2.2.2.1.1 rfl (lv_room (by rw [cat_map]; exact hst)) hd hf) kk
/-- a call of a static method -/
theorem a_callS {y : MethodName} {cc : ByteArray} {nL n fr mc ms idx : Nat} {ret : Option FieldType} {As : List Value} {Q1 : Option Value → Mem → Prop} (nst : Bool) (hd : decode B.2.1 pc = .ok (.invokestatic idx, 3)) (hw : MW y cc nL n ret) (hfr : B.2.2.2.2.2.2 = fr + 1) (hlk : (nst = false ∧ Cond.methodLink B.1 idx y ∈ TT) ∨ (nst = true ∧ Cond.methodLinkNest B.1 idx y "ProofTrim" ∈ NW)) (hsta : Cond.static y ∈ TT) (hn : As.length = n) (hst : (st.map fun v => v.category).sum ≤ 8)
    (hM : AM y cc nL ret B.2.2.2.2.2.1 fr mc ms X As M Q1) (kk : ∀ v M', Q1 v M' → AW X B bc bs (pc + 3) lv (v.toList ++ st) M' Q) : AW X B (bc + mc) (bs + ms) pc lv (As.reverse ++ st) M Q := by
  intro p l e R s m args below meth c h0 sp cy D H locs ls cells slots mc0 ms0 F Y
  have hts := F.2.2.2.2.2.2.1
  obtain ⟨b1, b2, b3, b4, b5, b6⟩ := hw.cb (mc := mc) (ms := ms) (idx := idx) F hfr
  have e0 : (As.reverse ++ st).map (mv h0 sp) = (As.map (mv h0 sp)).reverse ++ st.map (mv h0 sp) := by
    rw [List.map_append, List.map_reverse]
  rw [e0]
  have hps : PreS s H (PA X B.2.2.2.2.2.1 h0 sp cy D As M) (As.map (mv h0 sp)) := ⟨PA_blind, fun U hU hW => PA_at F Y hU hW⟩
  have hf : cells + mc ≤ R.cells ∧ slots + ms ≤ R.slots := by
    have := Y.2.2.2.2.2.1; have := Y.2.2.2.2.2.2.1; have := Y.2.2.2.2.2.2.2.1; have := Y.2.2.2.2.2.2.2.2
    constructor <;> omega
  rcases hlk with ⟨-, hlk⟩ | ⟨-, hlk⟩
  · exact a_after F Y (va_runS ⟨F.1, F.2.1, F.2.2.1, F.2.2.2.2.2.1, hts⟩ (hM l h0 sp cy D) ⟨⟨rfl, rfl, b5, b6, b1, List.mem_cons_self, b2, b3, hw.2.2.1, b4, hts _ hlk⟩, hts _ hsta⟩ hps rfl (by rw [len_map]; exact hn) Y.2.2.2.2.1.1 rfl (lv_room (by rw [cat_map]; exact hst)) hd hf) kk
  · exact a_after F Y (va_runSN ⟨F.1, F.2.1, F.2.2.1, F.2.2.2.2.2.1, hts⟩ (hM l h0 sp cy D) ⟨⟨⟨rfl, rfl, b5, b6, b1, List.mem_cons_self⟩, b2, b3, hw.2.2.1, b4, va_Nw.use rfl (F.2.2.2.2.2.2.2.2.2.2.2.1.1 _ hlk)⟩, hts _ hsta, trivial⟩ hps rfl (by rw [len_map]; exact hn) Y.2.2.2.2.1.1 rfl (lv_room (by rw [cat_map]; exact hst)) hd hf) kk
/-- a call of a constructor -/
theorem a_callI {y : MethodName} {cc : ByteArray} {nL n fr mc ms idx a : Nat} {As : List Value} {Q1 : Option Value → Mem → Prop} (nst : Bool) (hd : decode B.2.1 pc = .ok (.invokespecial idx, 3)) (hw : MW y cc nL n none) (hfr : B.2.2.2.2.2.2 = fr + 1) (hlk : (nst = false ∧ Cond.methodLink B.1 idx y ∈ TT) ∨ (nst = true ∧ Cond.methodLinkNest B.1 idx y "ProofTrim" ∈ NW)) (hin : Cond.instanceMethod y ∈ TT) (hy : y.name = "<init>") (ha : a < M.1) (hn : As.length = n) (hst : (st.map fun v => v.category).sum ≤ 8)
    (hM : AM y cc nL none B.2.2.2.2.2.1 fr mc ms X (.ref a :: As) M Q1) (kk : ∀ v M', Q1 v M' → AW X B bc bs (pc + 3) lv (v.toList ++ st) M' Q) : AW X B (bc + mc) (bs + ms) pc lv (As.reverse ++ .ref a :: st) M Q := by
  intro p l e R s m args below meth c h0 sp cy D H locs ls cells slots mc0 ms0 F Y
  have hts := F.2.2.2.2.2.2.1
  obtain ⟨b1, b2, b3, b4, b5, b6⟩ := hw.cb (mc := mc) (ms := ms) (idx := idx) F hfr
  have e0 : (As.reverse ++ .ref a :: st).map (mv h0 sp) = (As.map (mv h0 sp)).reverse ++ .ref (h0 + po a) :: st.map (mv h0 sp) := by
    rw [List.map_append, List.map_reverse, List.map_cons, mv_ref ha Y.2.1]
  have e1 : (Value.ref a :: As).map (mv h0 sp) = .ref (h0 + po a) :: As.map (mv h0 sp) := by rw [List.map_cons, mv_ref ha Y.2.1]
  rw [e0]
  have hps : PreS s H (PA X B.2.2.2.2.2.1 h0 sp cy D (.ref a :: As) M) (.ref (h0 + po a) :: As.map (mv h0 sp)) := by
    refine ⟨PA_blind, fun U hU hW => ?_⟩
    have := PA_at (As := .ref a :: As) F Y hU hW
    rw [e1] at this
    exact this
  have hf : cells + mc ≤ R.cells ∧ slots + ms ≤ R.slots := by
    have := Y.2.2.2.2.2.1; have := Y.2.2.2.2.2.2.1; have := Y.2.2.2.2.2.2.2.1; have := Y.2.2.2.2.2.2.2.2
    constructor <;> omega
  rcases hlk with ⟨-, hlk⟩ | ⟨-, hlk⟩
  · exact a_after F Y (va_runI ⟨F.1, F.2.1, F.2.2.1, F.2.2.2.2.2.1, hts⟩ (hM l h0 sp cy D) ⟨⟨rfl, rfl, b5, b6, b1, List.mem_cons_self, b2, b3, hw.2.2.1, b4, hts _ hlk⟩, hy, hts _ hin⟩ hps rfl (by rw [len_map]; exact hn) Y.2.2.2.2.1.1 rfl (lv_room (by rw [cat_map]; exact hst)) hd hf) kk
  · exact a_after F Y (va_runIN ⟨F.1, F.2.1, F.2.2.1, F.2.2.2.2.2.1, hts⟩ (hM l h0 sp cy D) ⟨⟨⟨rfl, rfl, b5, b6, b1, List.mem_cons_self⟩, b2, b3, hw.2.2.1, b4, va_Nw.use rfl (F.2.2.2.2.2.2.2.2.2.2.2.1.1 _ hlk)⟩, hy, hts _ hin⟩ hps rfl (by rw [len_map]; exact hn) Y.2.2.2.2.1.1 rfl (lv_room (by rw [cat_map]; exact hst)) hd hf) kk
end AR2
