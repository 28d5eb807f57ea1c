section AM1
variable {X : Nat × (Nat → Int32)} {B : Bx} {bc bs pc : Nat} {lv lv2 : List (Nat × Value)} {st : List Value} {M : Mem} {Q : Option Value → Mem → Prop}
theorem mv_ref {h0 a : Nat} {sp : Nat → Nat} {M : Mem} (ha : a < M.1) (hm : okM M) : mv h0 sp (.ref a) = .ref (h0 + po a) := by
  show Value.ref (rA h0 sp a) = _
  rw [rA_in ha hm]
/-- the next state of a frame whose one cell was changed -/
theorem Dy.put {R : Room} {s : State} {h0 : Nat} {sp : Nat → Nat} {cy : Nat → ClassId} {D : va_G} {M' : Mem} {H H1 : Heap} {locs locs1 : List Loc} {ls : Array Slot} {cells slots mc ms a : Nat} {x : va_E} (Y : Dy B bc bs R s h0 sp cy D lv M H locs ls cells slots mc ms) (h : Aft D (fun q => h0 ≤ q) s.heap H (pic h0 sp cy M) (po a) (h0 + po a, x) H1 locs1) (ha : a < M.1) (h8 : a ≠ 86) (hn : M'.1 = M.1) (h2 : M'.2.1 = M.2.1) (he : cellE h0 sp cy M' a = x) (ho : ∀ b, b ≠ a → cellE h0 sp cy M' b = cellE h0 sp cy M b) : Dy B bc bs R s h0 sp cy D lv M' H1 locs1 ls cells slots mc ms := by
  obtain ⟨z, hP, hS⟩ := h
  rw [pic_set ha h8 hn he ho] at hP
  exact ⟨fun h => by rw [z, hn]; exact Y.1 h, ok_n Y.2.1 hn h2, hP, hS, Y.2.2.2.2⟩
/-- a field is read -/
theorem a_get {idx ci k a : Nat} {v : Value} (hd : decode B.2.1 pc = .ok (.getfield idx, 3)) (hf : FL B.1 idx ci k) (ha : a < M.1) (hs : M.2.1 a = .inr ci) (hv : gv M ci a k = v) (kk : AW X B bc bs (pc + 3) lv (v :: st) M Q) : AW X B bc bs pc lv (.ref a :: st) M Q := by
  intro p l e R s m args below meth c h0 sp cy D H locs ls cells slots mc ms F Y
  rw [List.map_cons, mv_ref ha Y.2.1]
  obtain ⟨hci, hk, hlink⟩ := hf
  subst hv
  exact va_get (ref := (cT ci k).1) (ci := ci) F.1 F.2.1 F.2.2.2.2.2.2.1 (c_in ci hci) F.2.2.2.2.2.1 F.2.2.2.2.2.2.2.2.2.2.1 Y.2.2.1 (po a) (by rw [pic_at ha (ok_o Y.2.1 ha hs hci), cell_o hs]) (c_get ci hci) k hk (F.2.2.2.2.2.2.1 _ hlink) (fun _ h => h) (fs_at hk) hd (kk _ _ _ _ _ _ _ _ _ _ _ _ _ _ _ _ _ _ _ _ _ F Y)
theorem a_getN {idx ci k a : Nat} {v : Value} (hd : decode B.2.1 pc = .ok (.getfield idx, 3)) (hf : FLN B.1 idx ci k) (ha : a < M.1) (hs : M.2.1 a = .inr ci) (hv : gv M ci a k = v) (kk : AW X B bc bs (pc + 3) lv (v :: st) M Q) : AW X B bc bs pc lv (.ref a :: st) M Q := by
  intro p l e R s m args below meth c h0 sp cy D H locs ls cells slots mc ms F Y
  rw [List.map_cons, mv_ref ha Y.2.1]
  obtain ⟨hci, hk, hlink⟩ := hf
  subst hv
  exact va_getN (ref := (cT ci k).1) (ci := ci) F.1 F.2.1 F.2.2.2.2.2.2.1 (c_in ci hci) F.2.2.2.2.2.1 F.2.2.2.2.2.2.2.2.2.2.1 Y.2.2.1 (po a) (by rw [pic_at ha (ok_o Y.2.1 ha hs hci), cell_o hs]) (c_get ci hci) k hk (va_Nw.use rfl (F.2.2.2.2.2.2.2.2.2.2.2.1.1 _ hlink)) (fun _ h => h) (fs_at hk) hd (kk _ _ _ _ _ _ _ _ _ _ _ _ _ _ _ _ _ _ _ _ _ F Y)
/-- which field may be written here -/
def PL (B : Bx) (idx ci k : Nat) : Prop := (FL B.1 idx ci k ∧ ((cT ci k).2.2.2 = false ∨ ((cT ci k).2.2.2 = true ∧ B.2.2.2.2.1 = true ∧ (cT ci k).1 = B.1))) ∨ (FLN B.1 idx ci k ∧ (cT ci k).2.2.2 = false)
theorem PL.c {B : Bx} {idx ci k : Nat} (h : PL B idx ci k) : ci < 12 ∧ k < cN ci := h.elim (fun h => ⟨h.1.1, h.1.2.1⟩) (fun h => ⟨h.1.1, h.1.2.1⟩)
theorem a_putV {idx ci k a : Nat} {v : Value} {M' : Mem} (hd : decode B.2.1 pc = .ok (.putfield idx, 3)) (hf : PL B idx ci k) (ha : a < M.1) (hs : M.2.1 a = .inr ci) (hn : ∀ h0 sp, narrow (cTy ci k) (mv h0 sp v) = mv h0 sp v) (hft : ∀ h0 sp, fits (cTy ci k) (mv h0 sp v) = true) (h1 : M'.1 = M.1) (h2 : M'.2.1 = M.2.1) (h3 : ∀ h0 sp, fv h0 sp M' ci a k = mv h0 sp v) (h4 : ∀ h0 sp j, j ≠ k → fv h0 sp M' ci a j = fv h0 sp M ci a j) (h5 : ∀ h0 sp cy b, b ≠ a → cellE h0 sp cy M' b = cellE h0 sp cy M b)
    (kk : AW X B bc bs (pc + 3) lv st M' Q) : AW X B bc bs pc lv (v :: .ref a :: st) M Q := by
  intro p l e R s m args below meth c h0 sp cy D H locs ls cells slots mc ms F Y
  rw [List.map_cons, List.map_cons, mv_ref ha Y.2.1]
  obtain ⟨hci, hk⟩ := hf.c
  have he : (pic h0 sp cy M)[po a]? = some (h0 + po a, .inr (ci, (List.range (cN ci)).map (fv h0 sp M ci a))) := by rw [pic_at ha (ok_o Y.2.1 ha hs hci), cell_o hs]
  have fin : ∀ (H1 : Heap) (locs1 : List Loc), Aft D (fun q => h0 ≤ q) s.heap H (pic h0 sp cy M) (po a) (h0 + po a, .inr (ci, ((List.range (cN ci)).map (fv h0 sp M ci a)).set k (mv h0 sp v))) H1 locs1 → W p l e R s m args below meth c H1 locs1 cells slots (MQ below (QA B.2.2.2.2.2.1 h0 sp cy D Q) args s mc ms (fun q => h0 ≤ q)) (F0 m (pc + 3) ls (st.map (mv h0 sp))) := by
    intro H1 locs1 h
    rw [fs_set (h3 h0 sp) (h4 h0 sp) hk] at h
    exact kk _ _ _ _ _ _ _ _ _ _ _ _ _ _ _ _ _ _ _ _ _ F (Y.put h ha (ok_o Y.2.1 ha hs hci) h1 h2 (cell_o (by rw [h2]; exact hs)) (h5 h0 sp cy))
  rcases hf with ⟨hl, hf⟩ | ⟨hl, hf⟩
  · exact z_put false F.1 F.2.1 hci F.2.2.2.2.2.2.1 F.2.2.2.2.2.1 F.2.2.2.2.2.2.2.2.2.2.1 Y.2.2.1 pic_D Y.2.2.2.1 (po a) he k hk (Or.inl ⟨rfl, F.2.2.2.2.2.2.1 _ hl.2.2⟩) (hf.imp id (fun q => ⟨q.1, F.2.2.2.2.2.2.2.1 q.2.1, q.2.2⟩)) (hn h0 sp) (hft h0 sp) (by simpa using hk) hd fin
  · exact z_put true F.1 F.2.1 hci F.2.2.2.2.2.2.1 F.2.2.2.2.2.1 F.2.2.2.2.2.2.2.2.2.2.1 Y.2.2.1 pic_D Y.2.2.2.1 (po a) he k hk (Or.inr ⟨rfl, hf, va_Nw.use rfl (F.2.2.2.2.2.2.2.2.2.2.2.1.1 _ hl.2.2)⟩) (Or.inl hf) (hn h0 sp) (hft h0 sp) (by simpa using hk) hd fin
theorem a_putI {idx ci k a : Nat} {x : Int32} (hd : decode B.2.1 pc = .ok (.putfield idx, 3)) (hf : PL B idx ci k) (hK : fK ci k = 0) (ha : a < M.1) (hs : M.2.1 a = .inr ci) (hn : narrow (cTy ci k) (.int x) = .int x) (hft : fits (cTy ci k) (.int x) = true) (kk : AW X B bc bs (pc + 3) lv st (wI M a k x) Q) : AW X B bc bs pc lv (.int x :: .ref a :: st) M Q := by
  refine a_putV (M' := wI M a k x) hd hf ha hs (fun _ _ => hn) (fun _ _ => hft) rfl rfl (fun h0 sp => ?_) (fun h0 sp j hj => ?_) (fun h0 sp cy b hb => ?_) kk
  · unfold fv
    rw [hK]
    show Value.int (up2 M.2.2.1 a k x a k) = Value.int x
    rw [up2_s]
  · unfold fv
    show (match fK ci j with | 0 => Value.int (up2 M.2.2.1 a k x a j) | 1 => _ | _ => _) = _
    rw [up2_k _ _ _ hj]
    rfl
  · exact cell_ne rfl (fun j => up2_a _ _ _ _ hb) (fun _ => rfl) (fun _ => rfl)
theorem a_putJ {idx ci k a : Nat} {x : Int64} (hd : decode B.2.1 pc = .ok (.putfield idx, 3)) (hf : PL B idx ci k) (hK : fK ci k = 1) (ha : a < M.1) (hs : M.2.1 a = .inr ci) (kk : AW X B bc bs (pc + 3) lv st (wJ M a k x) Q) : AW X B bc bs pc lv (.long x :: .ref a :: st) M Q := by
  have ht : cTy ci k = .long := by
    unfold fK at hK
    cases h : cTy ci k <;> simp [h, ftk] at hK ⊢
  refine a_putV (M' := wJ M a k x) hd hf ha hs (fun _ _ => by rw [ht]; rfl) (fun _ _ => by rw [ht]; rfl) rfl rfl (fun h0 sp => ?_) (fun h0 sp j hj => ?_) (fun h0 sp cy b hb => ?_) kk
  · unfold fv
    rw [hK]
    show Value.long (up2 M.2.2.2.1 a k x a k) = Value.long x
    rw [up2_s]
  · unfold fv
    show (match fK ci j with | 0 => _ | 1 => Value.long (up2 M.2.2.2.1 a k x a j) | _ => _) = _
    rw [up2_k _ _ _ hj]
    rfl
  · exact cell_ne rfl (fun _ => rfl) (fun j => up2_a _ _ _ _ hb) (fun _ => rfl)
theorem a_putR {idx ci k a r : Nat} (hd : decode B.2.1 pc = .ok (.putfield idx, 3)) (hf : PL B idx ci k) (hK : fK ci k = 2) (ha : a < M.1) (hs : M.2.1 a = .inr ci) (kk : AW X B bc bs (pc + 3) lv st (wR M a k (some r)) Q) : AW X B bc bs pc lv (.ref r :: .ref a :: st) M Q := by
  have ht : ∀ b, narrow (cTy ci k) (.ref b) = .ref b ∧ fits (cTy ci k) (.ref b) = true := by
    intro b
    unfold fK at hK
    cases h : cTy ci k <;> simp [h, ftk, narrow, fits] at hK ⊢
  refine a_putV (M' := wR M a k (some r)) hd hf ha hs (fun _ _ => (ht _).1) (fun _ _ => (ht _).2) rfl rfl (fun h0 sp => ?_) (fun h0 sp j hj => ?_) (fun h0 sp cy b hb => ?_) kk
  · unfold fv
    rw [hK]
    show va_rf (mo h0 sp (up2 M.2.2.2.2 a k (some r) a k)) = _
    rw [up2_s]
    rfl
  · unfold fv
    show (match fK ci j with | 0 => _ | 1 => _ | _ => va_rf (mo h0 sp (up2 M.2.2.2.2 a k (some r) a j))) = _
    rw [up2_k _ _ _ hj]
    rfl
  · exact cell_ne rfl (fun _ => rfl) (fun _ => rfl) (fun j => up2_a _ _ _ _ hb)
theorem vin_lt {i : Int32} {n : Nat} (h : vp_in i n) : i.toNatClampNeg < n := Nat.not_le.mp fun q => h (Or.inr q)
theorem ty_at (cy : Nat → ClassId) : (tyL cy)[0]? = some (cy 0, .byte) ∧ (tyL cy)[1]? = some (cy 1, .int) ∧ (tyL cy)[2]? = some (cy 2, .long) ∧ (tyL cy)[3]? = some (cy 3, .int) ∧ (tyL cy)[4]? = some (cy 4, .object RX9) := ⟨rfl, rfl, rfl, rfl, rfl⟩
theorem a_iaload {a n : Nat} {i : Int32} (hd : decode B.2.1 pc = .ok (.iaload, 1)) (ha : a < M.1) (hs : M.2.1 a = .inl (1, n)) (hi : vp_in i n) (kk : AW X B bc bs (pc + 1) lv (.int (M.2.2.1 a i.toNatClampNeg) :: st) M Q) : AW X B bc bs pc lv (.int i :: .ref a :: st) M Q := by
  intro p l e R s m args below meth c h0 sp cy D H locs ls cells slots mc ms F Y
  rw [List.map_cons, List.map_cons, mv_ref ha Y.2.1]
  exact va_iald (n := n) (f := M.2.2.1 a) F.1 F.2.1 F.2.2.2.2.2.2.2.2.2.2.1 Y.2.2.1 (po a) 1 (by rw [pic_at ha (ok_a Y.2.1 ha hs), cell_a hs]; rfl) (ty_at cy).2.1 hi hd (kk _ _ _ _ _ _ _ _ _ _ _ _ _ _ _ _ _ _ _ _ _ F Y)
theorem a_baload {a n t : Nat} {i : Int32} (hd : decode B.2.1 pc = .ok (.baload, 1)) (ht : t = 0) (ha : a < M.1) (hs : M.2.1 a = .inl (t, n)) (hi : vp_in i n) (kk : AW X B bc bs (pc + 1) lv (.int (M.2.2.1 a i.toNatClampNeg) :: st) M Q) : AW X B bc bs pc lv (.int i :: .ref a :: st) M Q := by
  intro p l e R s m args below meth c h0 sp cy D H locs ls cells slots mc ms F Y
  rw [List.map_cons, List.map_cons, mv_ref ha Y.2.1]
  subst ht
  exact va_bald (n := n) (f := M.2.2.1 a) F.1 F.2.1 F.2.2.2.2.2.2.2.2.2.2.1 Y.2.2.1 (po a) 0 (by rw [pic_at ha (ok_a Y.2.1 ha hs), cell_a hs]; rfl) (ty_at cy).1 hi hd (kk _ _ _ _ _ _ _ _ _ _ _ _ _ _ _ _ _ _ _ _ _ F Y)
theorem a_laload {a n : Nat} {i : Int32} (hd : decode B.2.1 pc = .ok (.laload, 1)) (ha : a < M.1) (hs : M.2.1 a = .inl (2, n)) (hi : vp_in i n) (kk : AW X B bc bs (pc + 1) lv (.long (M.2.2.2.1 a i.toNatClampNeg) :: st) M Q) : AW X B bc bs pc lv (.int i :: .ref a :: st) M Q := by
  intro p l e R s m args below meth c h0 sp cy D H locs ls cells slots mc ms F Y
  rw [List.map_cons, List.map_cons, mv_ref ha Y.2.1]
  exact va_lald (n := n) (f := M.2.2.2.1 a) F.1 F.2.1 F.2.2.2.2.2.2.2.2.2.2.1 Y.2.2.1 (po a) 2 (by rw [pic_at ha (ok_a Y.2.1 ha hs), cell_a hs]; rfl) (ty_at cy).2.2.1 hi hd (kk _ _ _ _ _ _ _ _ _ _ _ _ _ _ _ _ _ _ _ _ _ F Y)
theorem a_aaload {a n r : Nat} {i : Int32} (hd : decode B.2.1 pc = .ok (.aaload, 1)) (ha : a < M.1) (hs : M.2.1 a = .inl (4, n)) (hi : vp_in i n) (hr : M.2.2.2.2 a i.toNatClampNeg = some r) (kk : AW X B bc bs (pc + 1) lv (.ref r :: st) M Q) : AW X B bc bs pc lv (.int i :: .ref a :: st) M Q := by
  intro p l e R s m args below meth c h0 sp cy D H locs ls cells slots mc ms F Y
  rw [List.map_cons, List.map_cons, mv_ref ha Y.2.1]
  refine va_aldq (n := n) (f := fun j => mo h0 sp (M.2.2.2.2 a j)) F.1 F.2.1 F.2.2.2.2.2.2.2.2.2.2.1 Y.2.2.1 (po a) 4 (by rw [pic_at ha (ok_a Y.2.1 ha hs), cell_a hs]; rfl) (ty_at cy).2.2.2.2 hi hd ?_
  show W p l e R s m args below meth c H locs cells slots _ (F0 m (pc + 1) ls (va_rf (mo h0 sp (M.2.2.2.2 a i.toNatClampNeg)) :: _))
  rw [hr]
  exact kk _ _ _ _ _ _ _ _ _ _ _ _ _ _ _ _ _ _ _ _ _ F Y
theorem up2_upd {f : Nat → Nat → Int32} {a i : Nat} {x : Int32} : up2 f a i x a = upd (f a) i x := by
  funext j
  by_cases h : j = i <;> simp [up2, upd, h]
theorem up2_updL {f : Nat → Nat → Int64} {a i : Nat} {x : Int64} : up2 f a i x a = vp_updL (f a) i x := by
  funext j
  by_cases h : j = i <;> simp [up2, vp_updL, h]
theorem a_iastore {a n : Nat} {i x : Int32} (hd : decode B.2.1 pc = .ok (.iastore, 1)) (ha : a < M.1) (hs : M.2.1 a = .inl (1, n)) (hi : vp_in i n) (kk : AW X B bc bs (pc + 1) lv st (wI M a i.toNatClampNeg x) Q) : AW X B bc bs pc lv (.int x :: .int i :: .ref a :: st) M Q := by
  intro p l e R s m args below meth c h0 sp cy D H locs ls cells slots mc ms F Y
  rw [List.map_cons, List.map_cons, List.map_cons, mv_ref ha Y.2.1]
  refine z_iast (n := n) (f := M.2.2.1 a) F.1 F.2.1 F.2.2.2.2.2.2.2.2.2.2.1 Y.2.2.1 pic_D Y.2.2.2.1 (po a) 1 (by rw [pic_at ha (ok_a Y.2.1 ha hs), cell_a hs]; rfl) (ty_at cy).2.1 hi hd (fun H1 locs1 h => kk _ _ _ _ _ _ _ _ _ _ _ _ _ _ _ _ _ _ _ _ _ F (Y.put h ha (ok_a Y.2.1 ha hs) rfl rfl ?_ (fun b hb => cell_ne rfl (fun j => up2_a _ _ _ _ hb) (fun _ => rfl) (fun _ => rfl))))
  rw [cell_a (show (wI M a i.toNatClampNeg x).2.1 a = _ from hs)]
  show Sum.inl (cy 1, n, Sum.inl (up2 M.2.2.1 a i.toNatClampNeg x a)) = _
  rw [up2_upd]
theorem a_bastore0 {a n : Nat} {i x : Int32} (hd : decode B.2.1 pc = .ok (.bastore, 1)) (ha : a < M.1) (hs : M.2.1 a = .inl (0, n)) (hi : vp_in i n) (kk : AW X B bc bs (pc + 1) lv st (wI M a i.toNatClampNeg x.toInt8.toInt32) Q) : AW X B bc bs pc lv (.int x :: .int i :: .ref a :: st) M Q := by
  intro p l e R s m args below meth c h0 sp cy D H locs ls cells slots mc ms F Y
  rw [List.map_cons, List.map_cons, List.map_cons, mv_ref ha Y.2.1]
  refine z_bast (n := n) (f := M.2.2.1 a) F.1 F.2.1 F.2.2.2.2.2.2.2.2.2.2.1 Y.2.2.1 pic_D Y.2.2.2.1 (po a) 0 (by rw [pic_at ha (ok_a Y.2.1 ha hs), cell_a hs]; rfl) (ty_at cy).1 hi hd (fun H1 locs1 h => kk _ _ _ _ _ _ _ _ _ _ _ _ _ _ _ _ _ _ _ _ _ F (Y.put h ha (ok_a Y.2.1 ha hs) rfl rfl ?_ (fun b hb => cell_ne rfl (fun j => up2_a _ _ _ _ hb) (fun _ => rfl) (fun _ => rfl))))
  rw [cell_a (show (wI M a i.toNatClampNeg x.toInt8.toInt32).2.1 a = _ from hs)]
  show Sum.inl (cy 0, n, Sum.inl (up2 M.2.2.1 a i.toNatClampNeg _ a)) = _
  rw [up2_upd]
theorem a_lastore {a n : Nat} {i : Int32} {x : Int64} (hd : decode B.2.1 pc = .ok (.lastore, 1)) (ha : a < M.1) (hs : M.2.1 a = .inl (2, n)) (hi : vp_in i n) (kk : AW X B bc bs (pc + 1) lv st (wJ M a i.toNatClampNeg x) Q) : AW X B bc bs pc lv (.long x :: .int i :: .ref a :: st) M Q := by
  intro p l e R s m args below meth c h0 sp cy D H locs ls cells slots mc ms F Y
  rw [List.map_cons, List.map_cons, List.map_cons, mv_ref ha Y.2.1]
  refine z_last (n := n) (f := M.2.2.2.1 a) F.1 F.2.1 F.2.2.2.2.2.2.2.2.2.2.1 Y.2.2.1 pic_D Y.2.2.2.1 (po a) 2 (by rw [pic_at ha (ok_a Y.2.1 ha hs), cell_a hs]; rfl) (ty_at cy).2.2.1 hi hd (fun H1 locs1 h => kk _ _ _ _ _ _ _ _ _ _ _ _ _ _ _ _ _ _ _ _ _ F (Y.put h ha (ok_a Y.2.1 ha hs) rfl rfl ?_ (fun b hb => cell_ne rfl (fun _ => rfl) (fun j => up2_a _ _ _ _ hb) (fun _ => rfl))))
  rw [cell_a (show (wJ M a i.toNatClampNeg x).2.1 a = _ from hs)]
  show Sum.inl (cy 2, n, Sum.inr (Sum.inl (up2 M.2.2.2.1 a i.toNatClampNeg x a))) = _
  rw [up2_updL]
theorem a_alen {a n t : Nat} {v : Int32} (ht : t < 5) (hd : decode B.2.1 pc = .ok (.arraylength, 1)) (ha : a < M.1) (hs : M.2.1 a = .inl (t, n)) (hv : Int32.ofNat n = v) (kk : AW X B bc bs (pc + 1) lv (.int v :: st) M Q) : AW X B bc bs pc lv (.ref a :: st) M Q := by
  intro p l e R s m args below meth c h0 sp cy D H locs ls cells slots mc ms F Y
  rw [List.map_cons, mv_ref ha Y.2.1]
  have hty : ∃ ty, (tyL cy)[t]? = some (cy t, ty) := by
    match t, ht with
    | 0, _ => exact ⟨_, rfl⟩
    | 1, _ => exact ⟨_, rfl⟩
    | 2, _ => exact ⟨_, rfl⟩
    | 3, _ => exact ⟨_, rfl⟩
    | 4, _ => exact ⟨_, rfl⟩
  obtain ⟨ty, hty⟩ := hty
  exact va_alen (x := ac h0 sp M t a n) F.1 F.2.1 F.2.2.2.2.2.2.2.2.2.2.1 Y.2.2.1 (po a) t (by rw [pic_at ha (ok_a Y.2.1 ha hs), cell_a hs]) hty hv hd (kk _ _ _ _ _ _ _ _ _ _ _ _ _ _ _ _ _ _ _ _ _ F Y)
end AM1
