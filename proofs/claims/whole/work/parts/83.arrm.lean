/-! ARRANGE in the class: all of it, along the tree -/
theorem hy_toInt {k : Nat} (h : k < 2147483648) : (-1 - nI k).toInt = -1 - (k : Int) := by
  rw [Int32.toInt_sub, nI_toInt (by omega), show (-1 : Int32).toInt = -1 from rfl]
  rw [Int.bmod_eq_of_le]
  · omega
  · omega
theorem hy_neg {k : Nat} (h : k < 2147483648) : -1 - nI k < 0 := by
  rw [Int32.lt_iff_toInt_lt, hy_toInt h]
  show _ < (0 : Int)
  omega
def amL (am p : Nat) : List Int32 := if am = 1 then [-1 - nI p] else []
/-- the way through a term -/
def wk : Tm → Nat → Nat → List Int32
  | .elem (.rem (.index o) _) a, p, am => amL am p ++ (wk a (p + 1) (amN o 0) ++ [nI p])
  | .div (.rem (.index _) a) b, p, am => amL am p ++ (wk a (p + 1) 0 ++ (wk b (p + 1 + sz a) 0 ++ [nI p]))
  | .sub (.rem m a) b, p, am => amL am p ++ (wk m (p + 1) 0 ++ (wk a (p + 1 + sz m) 1 ++ (wk b (p + 1 + sz m + sz a) 1 ++ [nI p])))
  | _, p, am => amL am p ++ [nI p]
/-- names of levels are told around -/
def scp : Tm → Nat → Prop
  | .index k, d => k < d
  | .arg k, _ => k < 6
  | .elem (.rem (.index o) _) a, d => scp a (d + amN o 0)
  | .div (.rem (.index _) a) b, d => scp a d ∧ scp b d
  | .sub (.rem m a) b, d => scp m d ∧ scp a (d + 1) ∧ scp b (d + 1)
  | _, _ => True
theorem amL_len (am p : Nat) : (amL am p).length ≤ 1 := by
  unfold amL
  split
  · simp
  · simp
theorem wk_len : ∀ t, isT t → ∀ p am, (wk t p am).length ≤ 2 * sz t := by
  apply tm_ind
  · intro k p am
    have := amL_len am p
    show (amL am p ++ [nI p]).length ≤ _
    simp only [List.length_append, List.length_cons, List.length_nil, sz_L]
    omega
  · intro k p am
    have := amL_len am p
    show (amL am p ++ [nI p]).length ≤ _
    simp only [List.length_append, List.length_cons, List.length_nil, sz_H]
    omega
  · intro o f a _ _ ih p am
    have := amL_len am p
    have := ih (p + 1) (amN o 0)
    show (amL am p ++ (wk a (p + 1) (amN o 0) ++ [nI p])).length ≤ _
    simp only [List.length_append, List.length_cons, List.length_nil, sz_U]
    omega
  · intro o a b _ _ _ ia ib p am
    have := amL_len am p
    have := ia (p + 1) 0
    have := ib (p + 1 + sz a) 0
    show (amL am p ++ (wk a (p + 1) 0 ++ (wk b (p + 1 + sz a) 0 ++ [nI p]))).length ≤ _
    simp only [List.length_append, List.length_cons, List.length_nil, sz_B]
    omega
  · intro m a b _ _ _ im ia ib p am
    have := amL_len am p
    have := im (p + 1) 0
    have := ia (p + 1 + sz m) 1
    have := ib (p + 1 + sz m + sz a) 1
    show (amL am p ++ (wk m (p + 1) 0 ++ (wk a (p + 1 + sz m) 1 ++ (wk b (p + 1 + sz m + sz a) 1 ++ [nI p])))).length ≤ _
    simp only [List.length_append, List.length_cons, List.length_nil, sz_C]
    omega
section ARM
variable {tr c : Nat} {l : List (Nat × Tm)}
def IaC (l : List (Nat × Tm)) (pa : Int32) (r am : Nat) : Prop := (pa = -1 ∧ am = 0) ∨ ∃ q, q < l.length ∧ pa = nI q ∧ r < 10 ∧ am = amN (opl l q) r
theorem IaC.le {pa : Int32} {r am : Nat} (h : IaC l pa r am) : am ≤ 1 := by
  rcases h with ⟨-, h⟩ | ⟨q, -, -, -, h⟩
  · omega
  · rw [h]; exact amN_le _ _
theorem c_isArmG {M : Mem} (hL : LtC M tr c l) (k : Nat) {p d r n am : Nat} {pa : Int32} (hp : p < 200) (ha : at2 M p d pa r n) (hI : IaC l pa r am) : f_X3_isArm (k + 1) 40 (nI p) M = some (nI am, M) := by
  rcases hI with ⟨h1, h2⟩ | ⟨q, h1, h2, h3, h4⟩
  · rw [h2]
    exact c_isArm0 hL k hp (ha.2.1.trans h1)
  · rw [h4]
    exact c_isArm hL k hp h1 h3 (ha.2.1.trans h2) ha.2.2.1
def SBd (p d am a j : Nat) : Prop := (a = 46 ∧ j = p) ∨ (am = 1 ∧ a = 47 ∧ j + 1 = d) ∨ SWk a j
/-- names are levels or hypotheses -/
def NmOk (l : List (Nat × Tm)) (p : Nat) : Prop := opl l p = 1 → (∃ j, j < 200 ∧ lbl l p = .index j) ∨ ∃ j, j < 200 ∧ lbl l p = .arg j
set_option maxHeartbeats 1000000 in
theorem bd_54 {M : Mem} (hL : LtC M tr c l) (k : Nat) {p : Nat} (hp : p < l.length) (hN : NmOk l p) : ∃ M1, lp (st_X3_bind (k + 1)) (54, [.ref 40, .int (nI p)], M) = some ((), M1) ∧ Fr (fun a j => a = 46 ∧ j = p) M M1 ∧ ∀ j, opl l p = 1 → lbl l p = .index j → M1.2.2.1 46 p = M.2.2.1 47 j := by
  obtain ⟨hW, hr2, hT, hR⟩ := hL
  have t1 := (TO_at hW hT).1
  have t6 := (TO_at hW hT).2.2.2.2.2.1
  have h2 := hR.2.1
  have ho := hR.2.2.1.at_ hp
  have hv : vp_in (nI p) 200 := vp_nI (by omega) (by omega)
  by_cases h1 : opl l p = 1
  · have eo := c_opAt hW hT hR k hp
    rw [h1] at eo
    have ag := (hR.ag hp).1 h1
    rcases hN h1 with ⟨j, hj, el⟩ | ⟨j, hj, el⟩
    · rw [el] at ag
      rw [show nv (opl l p, Jvm.Term.index j).2 = nI j from rfl] at ag
      refine ⟨wI M 46 p (M.2.2.1 47 j), ?_, Fr.refl.wI ⟨rfl, rfl⟩ _, fun i _ e => ?_⟩
      · refine (ge_X3_bind_54 (k + 1) 40 _ M).trans ?_
        simp (disch := omega) only [T_X3_bind_54, W_40 hW, hr2, gd_true, fO, fA, ex_in, bnd_s, Nat.reduceLT, true_and, and_self, cal_s, t1, t6, eo, bnd2_s, show (nI 1 = (1 : Int32)) = True from eq_true rfl, if_true, c_argAt hW hT hR k hp, ag, c_at47 hW k hj, nI_z, hv]
      · rw [el] at e
        cases e
        simp [up2_if]
    · rw [el] at ag
      rw [show nv (opl l p, Jvm.Term.arg j).2 = -1 - nI j from rfl] at ag
      obtain ⟨x, hx, ag2⟩ : ∃ x : Int32, x < 0 ∧ M.2.2.1 (tr + 2) p = x := ⟨_, hy_neg (k := j) (by omega), ag⟩
      have en := c_at_neg (M := M) k (a := 47) hx
      clear ag
      refine ⟨wI M 46 p (-1), ?_, Fr.refl.wI ⟨rfl, rfl⟩ _, fun i _ e => by rw [el] at e; cases e⟩
      refine (ge_X3_bind_54 (k + 1) 40 _ M).trans ?_
      simp (disch := omega) only [T_X3_bind_54, W_40 hW, hr2, gd_true, fO, fA, ex_in, bnd_s, Nat.reduceLT, true_and, and_self, cal_s, t1, t6, eo, bnd2_s, show (nI 1 = (1 : Int32)) = True from eq_true rfl, if_true, c_argAt hW hT hR k hp, ag2, en, nI_z, hv]
  · refine ⟨wI M 46 p (-1), ?_, Fr.refl.wI ⟨rfl, rfl⟩ _, fun i e => (h1 e).elim⟩
    refine (ge_X3_bind_54 (k + 1) 40 _ M).trans ?_
    simp (disch := omega) only [T_X3_bind_54, W_40 hW, hr2, gd_true, fO, fA, ex_in, bnd_s, Nat.reduceLT, true_and, and_self, cal_s, t1, t6, c_opAt hW hT hR k hp, bnd2_s, show (1 : Int32) = nI 1 from rfl, nI_eq_, h1, if_false, nI_z, hv]
set_option maxHeartbeats 1000000 in
theorem c_bind {M : Mem} (hL : LtC M tr c l) (k : Nat) {p d r n am : Nat} {pa : Int32} (hp : p < l.length) (ha : at2 M p d pa r n) (hI : IaC l pa r am) (hd : d ≤ 200) (h1 : am = 1 → 1 ≤ d) (hN : NmOk l p) {W : List Int32} (hw : wkC M W) (h4 : W.length < 400) : ∃ M1, f_X3_bind (k + 2) 40 (nI p) M = some ((), M1) ∧ Fr (SBd p d am) M M1 ∧ wkC M1 (W ++ amL am p) ∧ (am = 1 → M1.2.2.1 47 (d - 1) = nI p) ∧ ∀ j, opl l p = 1 → lbl l p = .index j → M1.2.2.1 46 p = M1.2.2.1 47 j := by
  have hW := hL.1
  have h2 := hL.2.2.2.2.1
  have ei := c_isArmG hL k (by omega) ha hI
  have hle := hI.le
  have hv : vp_in (nI p) 200 := vp_nI (by omega) (by omega)
  by_cases h0 : am = 0
  · subst h0
    obtain ⟨M1, e1, F1, w1⟩ := bd_54 hL (k + 1) hp hN
    refine ⟨M1, ?_, F1.mono (fun a j q => Or.inl q), ?_, fun q => by omega, fun j a b => ?_⟩
    · rw [← e1]
      refine (ge_X3_bind_0 (k + 2) 40 _ M).trans ?_
      simp (disch := omega) only [T_X3_bind_0, nI_lt0, if_false, show (200 : Int32) = nI 200 from rfl, nI_lt_, W_40 hW, gd_true, fO, fA, ex_in, bnd_s, Nat.reduceLT, true_and, and_self, nI_z, hv, cal_s, ei, bnd2_s, show (nI 0 = (0 : Int32)) = True from eq_true rfl, if_true]
      rw [if_pos (by omega)]
    · show wkC M1 (W ++ [])
      rw [List.append_nil]
      exact hw.mv F1 (by omega) (by omega)
    · rw [w1 j a b, F1.int (by omega)]
  · have ham : am = 1 := by omega
    subst ham
    obtain ⟨e, rfl⟩ : ∃ e, d = e + 1 := ⟨d - 1, by have := h1 rfl; omega⟩
    have F0 : Fr (SBd p (e + 1) 1) M (wI M 47 e (nI p)) := Fr.refl.wI (Or.inr (Or.inl ⟨rfl, rfl, rfl⟩)) _
    have F0' : Fr (fun a j => a = 47 ∧ j = e) M (wI M 47 e (nI p)) := Fr.refl.wI ⟨rfl, rfl⟩ _
    obtain ⟨M1, e1, F1, w1⟩ := c_addToWalk (F0.Wd hW) (hw.mv F0' (by omega) (by omega)) h4 (k + 1) (-1 - nI p)
    have L1 : LtC M1 tr c l := (hL.fr F0' (fun a j q => by omega)).fr F1 (fun a j q => by unfold SWk at q; omega)
    obtain ⟨M2, e2, F2, w2⟩ := bd_54 L1 (k + 1) hp hN
    refine ⟨M2, ?_, (F0.trans (F1.mono (fun a j q => Or.inr (Or.inr q)))).trans (F2.mono (fun a j q => Or.inl q)), ?_, fun _ => ?_, fun j a b => ?_⟩
    · rw [← e2]
      refine (ge_X3_bind_0 (k + 2) 40 _ M).trans ?_
      have ed : M.2.2.1 42 p = nI (e + 1) := ha.1
      have hv2 : vp_in (nI e) 200 := vp_nI (by omega) (by omega)
      simp (disch := omega) only [T_X3_bind_0, nI_lt0, if_false, show (200 : Int32) = nI 200 from rfl, nI_lt_, nI_le_, W_40 hW, gd_true, fO, fA, ex_in, bnd_s, Nat.reduceLT, true_and, and_self, nI_z, hv, cal_s, ei, bnd2_s, show (nI 1 = (0 : Int32)) = False from eq_false (by decide), ed, pm_sub, show pm (e + 1) = nI e from rfl, hv2, e1]
      rw [if_pos (by omega), if_neg (by omega)]
    · have := w1.mv F2 (by omega) (by omega)
      exact this
    · show M2.2.2.1 47 e = _
      rw [F2.int (by omega), F1.int (by unfold SWk; omega)]
      simp [up2_if]
    · rw [w2 j a b, F2.int (by omega)]
/-- one node of the forward way -/
theorem nd_in {M M1 M2 : Mem} (hL : LtC M tr c l) (k : Nat) {p : Nat} (hp : p < l.length) (e1 : f_X3_placeChildren (k + 2) 40 (nI p) M = some ((), M1)) (hW1 : Wd M1) (e2 : f_X3_bind (k + 2) 40 (nI p) M1 = some ((), M2)) (L2 : LtC M2 tr c l) (h0 : ar (opl l p) ≠ 0) : lp (st_X3_arrange (k + 3)) (108, [.ref 40, .int (nI p)], M) = lp (st_X3_arrange (k + 3)) (108, [.ref 40, .int (nI (p + 1))], M2) := by
  obtain ⟨hW, hr2, hT, hR⟩ := hL
  have t1 := (TO_at hW hT).1
  have t6 := (TO_at hW hT).2.2.2.2.2.1
  have h2 := hR.2.1
  have ho := hR.2.2.1.at_ hp
  have u1 := (TO_at L2.1 hT).1
  have ha3 : ar (opl l p) ≤ 3 := by
    unfold ar
    repeat' split
    all_goals omega
  refine (ge_X3_arrange_108 (k + 3) 40 _ M).trans ?_
  simp (disch := omega) only [T_X3_arrange_108, W_40 hW, hr2, gd_true, fO, bnd_s, Nat.reduceLT, and_self, t1, t6, hR.1, nI_le_, show (200 : Int32) = nI 200 from rfl, cal_s, e1, bnd2_s, W_40 hW1, e2, W_40 L2.1, L2.2.1, u1, c_opAt L2.1 hT L2.2.2.2 (k + 2) hp, c_arity (k + 2) ho.1 ho.2, show (0 : Int32) = nI 0 from rfl, nI_eq_, h0, if_false, nI_1]
  rw [if_neg (by omega), if_neg (by omega)]
theorem nd_lf {M M1 M2 M3 : Mem} (hL : LtC M tr c l) (k : Nat) {p : Nat} (hp : p < l.length) (e1 : f_X3_placeChildren (k + 2) 40 (nI p) M = some ((), M1)) (hW1 : Wd M1) (e2 : f_X3_bind (k + 2) 40 (nI p) M1 = some ((), M2)) (L2 : LtC M2 tr c l) (h0 : ar (opl l p) = 0) (e3 : f_X3_walkOut (k + 2) 40 (nI p) M2 = some ((), M3)) : lp (st_X3_arrange (k + 3)) (108, [.ref 40, .int (nI p)], M) = lp (st_X3_arrange (k + 3)) (108, [.ref 40, .int (nI (p + 1))], M3) := by
  obtain ⟨hW, hr2, hT, hR⟩ := hL
  have t1 := (TO_at hW hT).1
  have t6 := (TO_at hW hT).2.2.2.2.2.1
  have h2 := hR.2.1
  have ho := hR.2.2.1.at_ hp
  have u1 := (TO_at L2.1 hT).1
  refine (ge_X3_arrange_108 (k + 3) 40 _ M).trans ?_
  simp (disch := omega) only [T_X3_arrange_108, W_40 hW, hr2, gd_true, fO, bnd_s, Nat.reduceLT, and_self, t1, t6, hR.1, nI_le_, show (200 : Int32) = nI 200 from rfl, cal_s, e1, bnd2_s, W_40 hW1, e2, W_40 L2.1, L2.2.1, u1, c_opAt L2.1 hT L2.2.2.2 (k + 2) hp, c_arity (k + 2) ho.1 ho.2, show (0 : Int32) = nI 0 from rfl, h0, if_true, nI_1, e3]
  rw [if_neg (by omega), if_neg (by omega)]
end ARM
