/-! RULES of what was there before: statics, texts, the script; Object's constructor; Math; arraycopy; the array of references -/
section AR3
variable {X : Nat × (Nat → Int32)} {B : Bx} {bc bs pc : Nat} {lv lv2 : List (Nat × Value)} {st : List Value} {M : Mem} {Q : Option Value → Mem → Prop}
theorem mv_sp {h0 : Nat} {sp : Nat → Nat} (i : Nat) : mv h0 sp (.ref (1000000 + i)) = .ref (sp i) := by
  show Value.ref (rA h0 sp (1000000 + i)) = _
  rw [show rA h0 sp (1000000 + i) = sp (1000000 + i - 1000000) from if_neg (by omega), Nat.add_sub_cancel_left]
theorem mv_s4 {h0 : Nat} {sp : Nat → Nat} (i : Nat) : mv h0 sp (.ref (1000004 + i)) = .ref (sp (4 + i)) := by
  rw [show 1000004 + i = 1000000 + (4 + i) by omega]
  exact mv_sp _
theorem mv_s6 {h0 : Nat} {sp : Nat → Nat} (i : Nat) : mv h0 sp (.ref (1000006 + i)) = .ref (sp (6 + i)) := by
  rw [show 1000006 + i = 1000000 + (6 + i) by omega]
  exact mv_sp _
theorem a_objInit {idx : Nat} {v : Nat} (hd : decode B.2.1 pc = .ok (.invokespecial idx, 3)) (hl : Cond.methodLink B.1 idx Lib.objectInit ∈ TT) (hi : Cond.instanceMethod Lib.objectInit ∈ TT) (hc : Cond.code Lib.objectInit ⟨#[0xb1]⟩ 1 none ∈ TT) (hf : 1 ≤ B.2.2.2.2.2.2) (hst : (st.map fun v => v.category).sum ≤ 8) (kk : AW X B bc bs (pc + 3) lv st M Q) : AW X B bc bs pc lv (.ref v :: st) M Q := by
  intro p l e R s m args below meth c h0 sp cy D H locs ls cells slots mc ms F Y
  have hts := F.2.2.2.2.2.2.1
  have f1 := F.2.2.2.2.2.2.2.2.1
  have f2 := F.2.2.2.2.2.2.2.2.2.1
  have hr := lv_room (m := m) (pc := pc) (ls := ls) (rest := (Value.ref v :: st).map (mv h0 sp)) (st := st.map (mv h0 sp)) (by rw [cat_map]; exact hst)
  exact W.objInit F.1 F.2.1 F.2.2.2.2.2.1 (hts _ hl) (hts _ hi) (hts _ hc) rfl (by rw [F.2.2.1]; exact Y.2.2.2.2.1.1) rfl hd (by omega) (by omega) (kk _ _ _ _ _ _ _ _ _ _ _ _ _ _ _ _ _ _ _ _ _ F Y)
theorem a_stWL {idx : Nat} (hd : decode B.2.1 pc = .ok (.getstatic idx, 3)) (hl : Cond.fieldLink B.1 idx RX10 "WORD_LENGTHS" "[I" ∈ TT) (kk : AW X B bc bs (pc + 3) lv (.ref 1000001 :: st) M Q) : AW X B bc bs pc lv st M Q := by
  intro p l e R s m args below meth c h0 sp cy D H locs ls cells slots mc ms F Y
  have k1 := kk p l e R s m args below meth c h0 sp cy D H locs ls cells slots mc ms F Y
  rw [List.map_cons, show mv h0 sp (.ref 1000001) = .ref (sp 1) from mv_sp 1] at k1
  exact va_gets F.1 F.2.1 F.2.2.2.2.2.2.2.2.2.2.2.1.2.1.1 Y.2.2.2.1 F.2.2.2.2.2.1 (F.2.2.2.2.2.2.1 _ hl) (fun _ h => h) hd k1
theorem a_stAR {idx : Nat} (hd : decode B.2.1 pc = .ok (.getstatic idx, 3)) (hl : Cond.fieldLink B.1 idx RX10 "ARITIES" "[I" ∈ TT) (kk : AW X B bc bs (pc + 3) lv (.ref 1000002 :: st) M Q) : AW X B bc bs pc lv st M Q := by
  intro p l e R s m args below meth c h0 sp cy D H locs ls cells slots mc ms F Y
  have k1 := kk p l e R s m args below meth c h0 sp cy D H locs ls cells slots mc ms F Y
  rw [List.map_cons, show mv h0 sp (.ref 1000002) = .ref (sp 2) from mv_sp 2] at k1
  exact va_gets F.1 F.2.1 F.2.2.2.2.2.2.2.2.2.2.2.1.2.2.1.1 Y.2.2.2.1 F.2.2.2.2.2.1 (F.2.2.2.2.2.2.1 _ hl) (fun _ h => h) hd k1
theorem a_stAP {idx : Nat} (hd : decode B.2.1 pc = .ok (.getstatic idx, 3)) (hl : Cond.fieldLink B.1 idx RX5 "ATOM_PATTERNS" "[J" ∈ TT) (kk : AW X B bc bs (pc + 3) lv (.ref 1000003 :: st) M Q) : AW X B bc bs pc lv st M Q := by
  intro p l e R s m args below meth c h0 sp cy D H locs ls cells slots mc ms F Y
  have k1 := kk p l e R s m args below meth c h0 sp cy D H locs ls cells slots mc ms F Y
  rw [List.map_cons, show mv h0 sp (.ref 1000003) = .ref (sp 3) from mv_sp 3] at k1
  exact va_gets F.1 F.2.1 F.2.2.2.2.2.2.2.2.2.2.2.1.2.2.2.1.1 Y.2.2.2.1 F.2.2.2.2.2.1 (F.2.2.2.2.2.2.1 _ hl) (fun _ h => h) hd k1
theorem a_stCS {idx : Nat} (hd : decode B.2.1 pc = .ok (.getstatic idx, 3)) (hl : Cond.fieldLink B.1 idx RJ0 "COMPACT_STRINGS" "Z" ∈ TT) (kk : AW X B bc bs (pc + 3) lv (.int 1 :: st) M Q) : AW X B bc bs pc lv st M Q := by
  intro p l e R s m args below meth c h0 sp cy D H locs ls cells slots mc ms F Y
  exact va_gets F.1 F.2.1 F.2.2.2.2.2.2.2.2.2.2.2.1.2.2.2.2.2.2.1 Y.2.2.2.1 F.2.2.2.2.2.1 (F.2.2.2.2.2.2.1 _ hl) (fun _ h => h) hd (kk p l e R s m args below meth c h0 sp cy D H locs ls cells slots mc ms F Y)
theorem a_stFM {idx : Nat} (hd : decode B.2.1 pc = .ok (.getstatic idx, 3)) (hl : Cond.fieldLink B.1 idx RJ3 "SIOOBE_FORMATTER" "Ljava/util/function/BiFunction;" ∈ TT) (kk : ∀ v, v = Value.null ∨ v = .ref 1000008 → AW X B bc bs (pc + 3) lv (v :: st) M Q) : AW X B bc bs pc lv st M Q := by
  intro p l e R s m args below meth c h0 sp cy D H locs ls cells slots mc ms F Y
  rcases F.2.2.2.2.2.2.2.2.2.2.2.1.2.2.2.2.2.2.2.1 with h | h
  · exact va_gets F.1 F.2.1 h Y.2.2.2.1 F.2.2.2.2.2.1 (F.2.2.2.2.2.2.1 _ hl) (fun _ h => h) hd (kk _ (Or.inl rfl) p l e R s m args below meth c h0 sp cy D H locs ls cells slots mc ms F Y)
  · have k1 := kk _ (Or.inr rfl) p l e R s m args below meth c h0 sp cy D H locs ls cells slots mc ms F Y
    rw [List.map_cons, show mv h0 sp (.ref 1000008) = .ref (sp 8) from mv_sp 8] at k1
    exact va_gets F.1 F.2.1 h Y.2.2.2.1 F.2.2.2.2.2.1 (F.2.2.2.2.2.2.1 _ hl) (fun _ h => h) hd k1
theorem a_ldWL {i : Int32} (hd : decode B.2.1 pc = .ok (.iaload, 1)) (hi : vp_in i 22) (kk : AW X B bc bs (pc + 1) lv (.int (wlF i.toNatClampNeg) :: st) M Q) : AW X B bc bs pc lv (.int i :: .ref 1000001 :: st) M Q := by
  intro p l e R s m args below meth c h0 sp cy D H locs ls cells slots mc ms F Y
  rw [List.map_cons, List.map_cons, show mv h0 sp (.ref 1000001) = .ref (sp 1) from mv_sp 1]
  exact va_ti F.1 F.2.1 F.2.2.2.2.2.2.2.2.2.2.2.1.2.1.2 Y.2.2.2.1 hi rfl hd (kk p l e R s m args below meth c h0 sp cy D H locs ls cells slots mc ms F Y)
theorem a_ldAR {i : Int32} (hd : decode B.2.1 pc = .ok (.iaload, 1)) (hi : vp_in i 11) (kk : AW X B bc bs (pc + 1) lv (.int (arF i.toNatClampNeg) :: st) M Q) : AW X B bc bs pc lv (.int i :: .ref 1000002 :: st) M Q := by
  intro p l e R s m args below meth c h0 sp cy D H locs ls cells slots mc ms F Y
  rw [List.map_cons, List.map_cons, show mv h0 sp (.ref 1000002) = .ref (sp 2) from mv_sp 2]
  exact va_ti F.1 F.2.1 F.2.2.2.2.2.2.2.2.2.2.2.1.2.2.1.2 Y.2.2.2.1 hi rfl hd (kk p l e R s m args below meth c h0 sp cy D H locs ls cells slots mc ms F Y)
theorem a_lenAR (hd : decode B.2.1 pc = .ok (.arraylength, 1)) (kk : AW X B bc bs (pc + 1) lv (.int 11 :: st) M Q) : AW X B bc bs pc lv (.ref 1000002 :: st) M Q := by
  intro p l e R s m args below meth c h0 sp cy D H locs ls cells slots mc ms F Y
  rw [List.map_cons, show mv h0 sp (.ref 1000002) = .ref (sp 2) from mv_sp 2]
  exact va_tlen F.1 F.2.1 F.2.2.2.2.2.2.2.2.2.2.2.1.2.2.1.2 Y.2.2.2.1 rfl hd (kk p l e R s m args below meth c h0 sp cy D H locs ls cells slots mc ms F Y)
theorem a_ldAP {i : Int32} (hd : decode B.2.1 pc = .ok (.laload, 1)) (hi : vp_in i 6) (kk : AW X B bc bs (pc + 1) lv (.long (apF i.toNatClampNeg) :: st) M Q) : AW X B bc bs pc lv (.int i :: .ref 1000003 :: st) M Q := by
  intro p l e R s m args below meth c h0 sp cy D H locs ls cells slots mc ms F Y
  rw [List.map_cons, List.map_cons, show mv h0 sp (.ref 1000003) = .ref (sp 3) from mv_sp 3]
  exact va_tl F.1 F.2.1 F.2.2.2.2.2.2.2.2.2.2.2.1.2.2.2.1.2 Y.2.2.2.1 hi rfl hd (kk p l e R s m args below meth c h0 sp cy D H locs ls cells slots mc ms F Y)
/-- the script -/
theorem a_ldX {i : Int32} (hd : decode B.2.1 pc = .ok (.iaload, 1)) (hi : vp_in i X.1) (kk : AW X B bc bs (pc + 1) lv (.int (X.2 i.toNatClampNeg) :: st) M Q) : AW X B bc bs pc lv (.int i :: .ref 1000000 :: st) M Q := by
  intro p l e R s m args below meth c h0 sp cy D H locs ls cells slots mc ms F Y
  have hx := F.2.2.2.2.2.2.2.2.2.2.2.1.2.2.2.2.2.2.2.2.1
  rw [List.map_cons, List.map_cons, show mv h0 sp (.ref 1000000) = .ref (sp 0) from mv_sp 0]
  exact va_sld F.1 F.2.1 hx.1 (Nat.lt_of_lt_of_le hx.2 F.2.2.2.2.2.2.2.2.2.2.2.2) (by have := hx.2; omega) Y.2.2.2.1 hi hd (kk p l e R s m args below meth c h0 sp cy D H locs ls cells slots mc ms F Y)
theorem a_lenX (hd : decode B.2.1 pc = .ok (.arraylength, 1)) (kk : AW X B bc bs (pc + 1) lv (.int (Int32.ofNat X.1) :: st) M Q) : AW X B bc bs pc lv (.ref 1000000 :: st) M Q := by
  intro p l e R s m args below meth c h0 sp cy D H locs ls cells slots mc ms F Y
  have hx := F.2.2.2.2.2.2.2.2.2.2.2.1.2.2.2.2.2.2.2.2.1
  rw [List.map_cons, show mv h0 sp (.ref 1000000) = .ref (sp 0) from mv_sp 0]
  exact va_slen F.1 F.2.1 hx.1 (Nat.lt_of_lt_of_le hx.2 F.2.2.2.2.2.2.2.2.2.2.2.2) (by have := hx.2; omega) Y.2.2.2.1 hd (kk p l e R s m args below meth c h0 sp cy D H locs ls cells slots mc ms F Y)
/-- texts: number 0 the class's, 1 the reference's -/
def tbs (i : Nat) : List Int32 := [tbA, tbB].getD i []
def tln (i : Nat) : Nat := [110, 74].getD i 0
theorem a_ldcA (hd : decode B.2.1 pc = .ok (.ldc_w 342, 3)) (hb : B.1 = RX10) (kk : AW X B bc bs (pc + 3) lv (.ref 1000004 :: st) M Q) : AW X B bc bs pc lv st M Q := by
  intro p l e R s m args below meth c h0 sp cy D H locs ls cells slots mc ms F Y
  have k1 := kk p l e R s m args below meth c h0 sp cy D H locs ls cells slots mc ms F Y
  rw [List.map_cons, show mv h0 sp (.ref 1000004) = .ref (sp 4) from mv_sp 4] at k1
  have hown : s.vm.findClass RX10 = some m.cls := by have := F.2.2.2.2.2.1; rw [hb] at this; exact this
  have hZ := F.2.2.2.2.2.2.2.2.2.2.2.1.2.2.2.2.1.1
  intro T hT X1
  obtain ⟨t, a1, b1⟩ := k1 T hT X1
  refine ⟨t, ?_, b1⟩
  obtain ⟨k, cf, i, a', hk, hcf, hcp, -, hr, hev'⟩ := Cond.stringRef_spec hown hZ.1
  cases hZ.2.symm.trans hev'
  obtain ⟨k', hk', he⟩ := X1.warmed.alike.2.2 _ _ hk
  have hr' : k'.resolved[342]? = some (some (.string (sp 4))) := by
    rcases X1.warmed.entry hk hk' 342 with h | ⟨h, -⟩
    · rw [h]; exact hr
    · rw [hr] at h; cases h
  have hexec := F.1
  have hdg : decode c.code pc = .ok (.ldc_w 342, 3) := by rw [F.2.1]; exact hd
  jvm_step X1.here [hexec, hdg, ldc_w.wp_string (e := e) (s := T) (f := F0 m pc ls (st.map (mv h0 sp))) X1.here.top hk' (by rw [he]; exact hcf) hcp hr']
  exact a1
theorem a_ldcB (hd : decode B.2.1 pc = .ok (.ldc 187, 2)) (hb : B.1 = RX11) (kk : AW X B bc bs (pc + 2) lv (.ref 1000005 :: st) M Q) : AW X B bc bs pc lv st M Q := by
  intro p l e R s m args below meth c h0 sp cy D H locs ls cells slots mc ms F Y
  have k1 := kk p l e R s m args below meth c h0 sp cy D H locs ls cells slots mc ms F Y
  rw [List.map_cons, show mv h0 sp (.ref 1000005) = .ref (sp 5) from mv_sp 5] at k1
  exact va_ldcS F.1 F.2.1 (by have := F.2.2.2.2.2.1; rw [hb] at this; exact this) F.2.2.2.2.2.2.2.2.2.2.2.1.2.2.2.2.1.2 hd k1
theorem a_strV {i idx : Nat} (hi : i < 2) (hd : decode B.2.1 pc = .ok (.getfield idx, 3)) (hl : Cond.fieldLink B.1 idx "java/lang/String" "value" "[B" ∈ TT) (kk : AW X B bc bs (pc + 3) lv (.ref (1000006 + i) :: st) M Q) : AW X B bc bs pc lv (.ref (1000004 + i) :: st) M Q := by
  intro p l e R s m args below meth c h0 sp cy D H locs ls cells slots mc ms F Y
  have k1 := kk p l e R s m args below meth c h0 sp cy D H locs ls cells slots mc ms F Y
  rw [List.map_cons, show mv h0 sp (.ref (1000006 + i)) = .ref (sp (6 + i)) from mv_s6 i] at k1
  rw [List.map_cons, show mv h0 sp (.ref (1000004 + i)) = .ref (sp (4 + i)) from mv_s4 i]
  exact vk_getf F.1 F.2.1 (F.2.2.2.2.2.2.2.2.2.2.2.1.2.2.2.2.2.1.1 i hi).2.2.1 Y.2.2.2.1 F.2.2.2.2.2.1 (F.2.2.2.2.2.2.1 _ hl) (fun _ h => h) hd k1
theorem a_strC {i idx : Nat} (hi : i < 2) (hd : decode B.2.1 pc = .ok (.getfield idx, 3)) (hl : Cond.fieldLink B.1 idx "java/lang/String" "coder" "B" ∈ TT) (kk : AW X B bc bs (pc + 3) lv (.int 0 :: st) M Q) : AW X B bc bs pc lv (.ref (1000004 + i) :: st) M Q := by
  intro p l e R s m args below meth c h0 sp cy D H locs ls cells slots mc ms F Y
  rw [List.map_cons, show mv h0 sp (.ref (1000004 + i)) = .ref (sp (4 + i)) from mv_s4 i]
  exact vk_getf F.1 F.2.1 (F.2.2.2.2.2.2.2.2.2.2.2.1.2.2.2.2.2.1.1 i hi).2.1 Y.2.2.2.1 F.2.2.2.2.2.1 (F.2.2.2.2.2.2.1 _ hl) (fun _ h => h) hd (kk p l e R s m args below meth c h0 sp cy D H locs ls cells slots mc ms F Y)
theorem a_ldB {i : Nat} {j : Int32} (hi : i < 2) (hd : decode B.2.1 pc = .ok (.baload, 1)) (hj : vp_in j (tln i)) (kk : AW X B bc bs (pc + 1) lv (.int ((tbs i).getD j.toNatClampNeg 0) :: st) M Q) : AW X B bc bs pc lv (.int j :: .ref (1000006 + i) :: st) M Q := by
  intro p l e R s m args below meth c h0 sp cy D H locs ls cells slots mc ms F Y
  rw [List.map_cons, List.map_cons, show mv h0 sp (.ref (1000006 + i)) = .ref (sp (6 + i)) from mv_s6 i]
  exact va_tb F.1 F.2.1 (F.2.2.2.2.2.2.2.2.2.2.2.1.2.2.2.2.2.1.1 i hi).2.2.2 Y.2.2.2.1 hj rfl hd (kk p l e R s m args below meth c h0 sp cy D H locs ls cells slots mc ms F Y)
theorem a_lenB {i : Nat} {v : Int32} (hi : i < 2) (hd : decode B.2.1 pc = .ok (.arraylength, 1)) (hv : Int32.ofNat (tln i) = v) (kk : AW X B bc bs (pc + 1) lv (.int v :: st) M Q) : AW X B bc bs pc lv (.ref (1000006 + i) :: st) M Q := by
  intro p l e R s m args below meth c h0 sp cy D H locs ls cells slots mc ms F Y
  rw [List.map_cons, show mv h0 sp (.ref (1000006 + i)) = .ref (sp (6 + i)) from mv_s6 i]
  exact va_tlen F.1 F.2.1 (F.2.2.2.2.2.2.2.2.2.2.2.1.2.2.2.2.2.1.1 i hi).2.2.2 Y.2.2.2.1 hv hd (kk p l e R s m args below meth c h0 sp cy D H locs ls cells slots mc ms F Y)
/-- a call of an instance method of String on a text of ours -/
theorem a_callT {y : MethodName} {cc : ByteArray} {nL n fr mc ms idx i : Nat} {ret : Option FieldType} {As : List Value} {Q1 : Option Value → Mem → Prop} (hd : decode B.2.1 pc = .ok (.invokevirtual idx, 3)) (hw : MW y cc nL n ret) (hfr : B.2.2.2.2.2.2 = fr + 1) (hlk : Cond.methodLink B.1 idx y ∈ TT) (hin : Cond.instanceMethod y ∈ TT) (hse : Cond.selects "java/lang/String" y y ∈ TT) (hi : i < 2) (hn : As.length = n) (hst : (st.map fun v => v.category).sum ≤ 8)
    (hM : AM y cc nL ret B.2.2.2.2.2.1 fr mc ms X (.ref (1000004 + i) :: As) M Q1) (kk : ∀ v M', Q1 v M' → AW X B bc bs (pc + 3) lv (v.toList ++ st) M' Q) : AW X B (bc + mc) (bs + ms) pc lv (As.reverse ++ .ref (1000004 + i) :: st) M Q := by
  intro p l e R s m args below meth c h0 sp cy D H locs ls cells slots mc0 ms0 F Y
  have hts := F.2.2.2.2.2.2.1
  obtain ⟨b1, b2, b3, b4, b5, b6⟩ := hw.cb (mc := mc) (ms := ms) (idx := idx) F hfr
  have er : mv h0 sp (.ref (1000004 + i)) = .ref (sp (4 + i)) := mv_s4 i
  have e0 : (As.reverse ++ .ref (1000004 + i) :: st).map (mv h0 sp) = (As.map (mv h0 sp)).reverse ++ .ref (sp (4 + i)) :: st.map (mv h0 sp) := by
    rw [List.map_append, List.map_reverse, List.map_cons, er]
  have e1 : (Value.ref (1000004 + i) :: As).map (mv h0 sp) = .ref (sp (4 + i)) :: As.map (mv h0 sp) := by rw [List.map_cons, er]
  rw [e0]
  have hpv : PreV s H "java/lang/String" (sp (4 + i)) (PA X B.2.2.2.2.2.1 h0 sp cy D (.ref (1000004 + i) :: As) M) (As.map (mv h0 sp)) := by
    refine ⟨PA_blind, vk_recv (i := i) (adK := fun i => sp (4 + i)) F.2.2.2.2.2.2.2.2.2.2.2.1.2.2.2.2.2.1 hi Y.2.2.2.1, fun U hU hW => ?_⟩
    have := PA_at (As := .ref (1000004 + i) :: As) F Y hU hW
    rw [e1] at this
    exact this
  have hf : cells + mc ≤ R.cells ∧ slots + ms ≤ R.slots := by
    have := Y.2.2.2.2.2.1; have := Y.2.2.2.2.2.2.1; have := Y.2.2.2.2.2.2.2.1; have := Y.2.2.2.2.2.2.2.2
    constructor <;> omega
  exact a_after F Y (va_runV ⟨F.1, F.2.1, F.2.2.1, F.2.2.2.2.2.1, hts⟩ (hM l h0 sp cy D) ⟨⟨rfl, rfl, b5, b6, b1, List.mem_cons_self, b2, b3, hw.2.2.1, b4, hts _ hlk⟩, hts _ hin, hts _ hse⟩ hpv rfl (by rw [len_map]; exact hn) Y.2.2.2.2.1.1 rfl (lv_room (by rw [cat_map]; exact hst)) hd hf) kk
theorem a_mmin {idx : Nat} {x y : Int32} (hd : decode B.2.1 pc = .ok (.invokestatic idx, 3)) (hl : Cond.methodLink B.1 idx Lib.Math.min.name ∈ TT) (h1 : Cond.static Lib.Math.min.name ∈ TT) (h2 : Cond.initialized "java/lang/Math" ∈ TT) (h3 : Cond.code Lib.Math.min.name Lib.Math.min.code 2 (some .int) ∈ TT) (hf : 1 ≤ B.2.2.2.2.2.2) (hst : (st.map fun v => v.category).sum ≤ 8) (kk : AW X B bc bs (pc + 3) lv (.int (if y < x then y else x) :: st) M Q) : AW X B bc bs pc lv (.int y :: .int x :: st) M Q := by
  intro p l e R s m args below meth c h0 sp cy D H locs ls cells slots mc ms F Y
  have hts := F.2.2.2.2.2.2.1
  have f1 := F.2.2.2.2.2.2.2.2.1
  have f2 := F.2.2.2.2.2.2.2.2.2.1
  exact va_mmin F.1 F.2.1 (by rw [F.2.2.1]; exact Y.2.2.2.2.1.1.symm) F.2.2.2.2.2.1 (hts _ hl) (hts _ h1) (hts _ h2) (hts _ h3) (by omega) (by rw [cat_map]; omega) (by have := Y.2.2.2.2.2.1; have := Y.2.2.2.2.2.2.2.1; omega) (by have := Y.2.2.2.2.2.2.1; have := Y.2.2.2.2.2.2.2.2; omega) hd (kk _ _ _ _ _ _ _ _ _ _ _ _ _ _ _ _ _ _ _ _ _ F Y)
theorem a_mmax {idx : Nat} {x y : Int32} (hd : decode B.2.1 pc = .ok (.invokestatic idx, 3)) (hl : Cond.methodLink B.1 idx Lib.Math.max.name ∈ TT) (h1 : Cond.static Lib.Math.max.name ∈ TT) (h2 : Cond.initialized "java/lang/Math" ∈ TT) (h3 : Cond.code Lib.Math.max.name Lib.Math.max.code 2 (some .int) ∈ TT) (hf : 1 ≤ B.2.2.2.2.2.2) (hst : (st.map fun v => v.category).sum ≤ 8) (kk : AW X B bc bs (pc + 3) lv (.int (if x < y then y else x) :: st) M Q) : AW X B bc bs pc lv (.int y :: .int x :: st) M Q := by
  intro p l e R s m args below meth c h0 sp cy D H locs ls cells slots mc ms F Y
  have hts := F.2.2.2.2.2.2.1
  have f1 := F.2.2.2.2.2.2.2.2.1
  have f2 := F.2.2.2.2.2.2.2.2.2.1
  exact va_mmax F.1 F.2.1 (by rw [F.2.2.1]; exact Y.2.2.2.2.1.1.symm) F.2.2.2.2.2.1 (hts _ hl) (hts _ h1) (hts _ h2) (hts _ h3) (by omega) (by rw [cat_map]; omega) (by have := Y.2.2.2.2.2.1; have := Y.2.2.2.2.2.2.2.1; omega) (by have := Y.2.2.2.2.2.2.1; have := Y.2.2.2.2.2.2.2.2; omega) hd (kk _ _ _ _ _ _ _ _ _ _ _ _ _ _ _ _ _ _ _ _ _ F Y)
end AR3
section AR4
variable {X : Nat × (Nat → Int32)} {B : Bx} {bc bs pc : Nat} {lv lv2 : List (Nat × Value)} {st : List Value} {M : Mem} {Q : Option Value → Mem → Prop}
/-- an array of Terms is made -/
theorem a_anew {idx n : Nat} {x : Int32} (hd : decode B.2.1 pc = .ok (.anewarray idx, 3)) (hal : B.2.2.2.2.2.1 = true) (hl : Cond.classLink B.1 idx RX9 ∈ TT) (hn : ¬ x < 0) (hx : x.toNatClampNeg = n) (hb : n ≤ 60000) (hm : M.1 + 1 ≤ 1000000) (h8 : M.1 ≠ 86) (kk : AW X B bc bs (pc + 3) lv (.ref M.1 :: st) (nA M 4 n) Q) : AW X B (bc + 1) (bs + n) pc lv (.int x :: st) M Q := by
  intro p l e R s m args below meth c h0 sp cy D H locs ls cells slots mc ms F Y
  have hts := F.2.2.2.2.2.2.1
  have hK := F.2.2.2.2.2.2.2.2.2.2.1
  have hsz := Y.1 hal
  have hao := F.2.2.2.2.2.2.2.2.2.2.2.1.2.2.2.2.2.2.2.2.2
  refine W.anew F.1 F.2.1 F.2.2.2.2.2.1 (hts _ hl) hao.use rfl hd rfl hn (by rw [hx]; omega) (by have := Y.2.2.2.2.2.1; have := Y.2.2.2.2.2.2.2.1; omega) (by have := Y.2.2.2.2.2.2.1; have := Y.2.2.2.2.2.2.2.2; omega) fun cA kA comp g1 g2 g3 g4 => ?_
  have hcA : cA = cy 4 := by
    obtain ⟨kA', comp', k1, k2, k3, k4⟩ := (hK.2 4 _ (ty_at cy).2.2.2.2).2
    exact Option.some.inj (g1.symm.trans k4)
  subst hcA
  have hcell : cellE h0 sp cy (nA M 4 n) M.1 = .inl (cy 4, ac h0 sp (nA M 4 n) 4 M.1 n) := cell_a (vup_s _ _ _)
  have hP1 : va_P D vwCl (pic h0 sp cy (nA M 4 n)) (H.push { cls := cy 4, slots := Array.replicate x.toNatClampNeg .null, vm := .none }) := by
    rw [← pic_push (M := M) h8 rfl hcell (new_ne rfl)]
    refine (Y.2.2.1.kept (fun k y hy => ?_)).app (fun k y hy => ?_)
    · rw [Array.getElem?_push, if_neg (Nat.ne_of_lt (Y.2.2.1 k y hy).lt)]
    · have hz : k < 1 := (List.getElem?_eq_some_iff.mp hy).1
      rw [show k = 0 by omega] at hy
      cases hy
      show (H.push _)[h0 + po M.1]? = some (vp_cell (cy 4) (ac h0 sp (nA M 4 n) 4 M.1 n))
      have er : (nA M 4 n).2.2.2.2 M.1 = fun _ => none := vup_s _ _ _
      unfold ac
      rw [er, ← hsz, Array.getElem?_push, if_pos rfl, hx]
      show some _ = some (arrV (cy 4) n (fun j => Value.null))
      unfold arrV
      congr 2
      apply Array.ext_getElem?
      intro j
      by_cases hj : j < n <;> simp [hj]
  have hr : mv h0 sp (.ref M.1) = .ref H.size := by
    rw [hsz]
    show Value.ref (rA h0 sp M.1) = _
    rw [show rA h0 sp M.1 = h0 + po M.1 from if_pos (by omega)]
  have k1 := kk p l e R s m args below meth c h0 sp cy D (H.push { cls := cy 4, slots := Array.replicate x.toNatClampNeg .null, vm := .none }) locs ls (cells + 1) (slots + n) mc ms F ⟨fun _ => by rw [Array.size_push]; show H.size + 1 = h0 + po (M.1 + 1); rw [po_s h8]; omega, ok_new Y.2.1 h8 hm, hP1, ⟨Nat.le_trans Y.2.2.2.1.1 (by rw [Array.size_push]; omega), fun q h1 h2 => by rw [Array.getElem?_push, if_neg (by have := Y.2.2.2.1.1; omega)]; exact Y.2.2.2.1.2.1 q h1 h2, Y.2.2.2.1.2.2⟩, Y.2.2.2.2.1, by have := Y.2.2.2.2.2.1; omega, by have := Y.2.2.2.2.2.2.1; omega, Y.2.2.2.2.2.2.2⟩
  rw [List.map_cons, hr] at k1
  rw [hx] at k1 ⊢
  exact k1
theorem a_aastore {a n r : Nat} {i : Int32} (hd : decode B.2.1 pc = .ok (.aastore, 1)) (ha : a < M.1) (hs : M.2.1 a = .inl (4, n)) (hi : vp_in i n) (hr : r < M.1) (hs2 : M.2.1 r = .inr 9) (kk : AW X B bc bs (pc + 1) lv st (wR M a i.toNatClampNeg (some r)) Q) : AW X B bc bs pc lv (.ref r :: .int i :: .ref a :: st) M Q := by
  intro p l e R s m args below meth c h0 sp cy D H locs ls cells slots mc ms F Y
  rw [List.map_cons, List.map_cons, List.map_cons, mv_ref ha Y.2.1, mv_ref hr Y.2.1]
  have hK := F.2.2.2.2.2.2.2.2.2.2.1
  have hlt := vin_lt hi
  have h0' : ¬ i < 0 := fun q => hi (Or.inl q)
  have he : (pic h0 sp cy M)[po a]? = some (h0 + po a, .inl (cy 4, ac h0 sp M 4 a n)) := by rw [pic_at ha (ok_a Y.2.1 ha hs), cell_a hs]
  have hv : (pic h0 sp cy M)[po r]? = some (h0 + po r, .inr (9, (List.range (cN 9)).map (fv h0 sp M 9 r))) := by rw [pic_at hr (ok_o Y.2.1 hr hs2 (by decide)), cell_o hs2]
  obtain ⟨r', hr', cellV, g1, g2, g3, -⟩ := Y.2.2.1 (po r) _ hv
  have hcls := (hK.1 9 _ (c_get 9 (by decide))).2
  obtain ⟨kA, comp, k1, k2, k3, -⟩ := (hK.2 4 _ (ty_at cy).2.2.2.2).2
  have hcomp : comp = D.1 9 := Option.some.inj (k3.symm.trans hcls.1)
  subst hcomp
  obtain ⟨kC, hkC, -⟩ := hcls.2
  have hca : H[h0 + po a]? = some (vp_cell (cy 4) (ac h0 sp M 4 a n)) := Y.2.2.1 (po a) _ he
  refine W.aast F.1 F.2.1 hca (fun q h => by cases h) (fun h => by cases h) k1 k2 rfl hkC ⟨h0', by show _ < (arrV _ _ _).slots.size; rw [arrV_size]; exact hlt⟩ g1 (fun q h => by rw [g3] at h; cases h) (by rw [g2]; exact hkC) (by rw [g2]; exact va_assign hcls) rfl rfl hd fun H1 e1 z oq => ?_
  have hnew : cellE h0 sp cy (wR M a i.toNatClampNeg (some r)) a = .inl (cy 4, ac h0 sp (wR M a i.toNatClampNeg (some r)) 4 a n) := cell_a hs
  refine kk _ _ _ _ _ _ _ _ _ _ _ _ _ _ _ _ _ _ _ _ _ F (Y.put ⟨z, Y.2.2.1.set pic_D he (e := .inl (cy 4, ac h0 sp (wR M a i.toNatClampNeg (some r)) 4 a n)) ?_ oq, Y.2.2.2.1.put z oq (Nat.le_add_right _ _)⟩ ha (ok_a Y.2.1 ha hs) rfl rfl hnew (fun b hb => cell_ne rfl (fun _ => rfl) (fun _ => rfl) (fun j => up2_a _ _ _ _ hb)))
  show H1[h0 + po a]? = some (vp_cell _ _)
  rw [e1]
  show some ((arrV (cy 4) n (fun j => va_rf (mo h0 sp (M.2.2.2.2 a j)))).setSlot _ _) = some (arrV (cy 4) n (fun j => va_rf (mo h0 sp (up2 M.2.2.2.2 a i.toNatClampNeg (some r) a j))))
  rw [arrV_store]
  congr 2
  funext q
  by_cases hq : q = i.toNatClampNeg
  · subst hq
    rw [up2_s]
    show updV _ _ _ _ = Value.ref (rA h0 sp r)
    rw [rA_in hr Y.2.1]
    simp [updV]
  · rw [up2_k _ _ _ hq]
    simp [updV, hq]
end AR4
