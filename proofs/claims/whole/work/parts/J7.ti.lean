/-! THE DECIDER in the class: imps tried in turn -/
theorem dv_nI {t m : Nat} (hm : 0 < m) (hm2 : m ≤ 40) (ht : t < 1700) : nI t / nI m = nI (t / m) := by
  apply Int32.toInt_inj.mp
  have e : ∀ a, a < 2147483648 → (nI a).toInt = (a : Int) := fun a ha => Int32.toInt_ofNat_of_lt (by omega)
  rw [Int32.toInt_div_of_ne_right _ _ (by
    intro q
    have := congrArg Int32.toInt q
    rw [e m (by omega)] at this
    have h2 : (-1 : Int32).toInt = -1 := by decide
    rw [h2] at this
    omega), e t (by omega), e m (by omega), e (t / m) (by have := Nat.div_le_self t m; omega)]
  rw [Int.tdiv_eq_ediv_of_nonneg (by omega)]
  rfl
theorem md_nI {t m : Nat} (hm : 0 < m) (hm2 : m ≤ 40) (ht : t < 1700) : nI t - nI t / nI m * nI m = nI (t % m) := by
  have h := Nat.div_add_mod t m
  have h2 := Nat.mul_comm m (t / m)
  rw [dv_nI hm hm2 ht, nI_mul, nI_sub (by omega) (by omega)]
  congr 1
  omega
section TI7
variable {M M1 : Mem} {m n g : Nat} {kd lf rt : Nat → Nat} {asked granted : Nat → Prop} {aw : Int64}
/-- the decider's state -/
def DcM (m : Nat) (kd lf rt : Nat → Nat) (g : Nat) (aw : Int64) (M : Mem) : Prop := Wd M ∧ DcP M m kd lf rt ∧ DcQ M m g aw ∧ MmO M (fun k v => ClO m kd lf rt g (St aw) (St k) (St v))
/-- an answer of close -/
def ClA2 (m : Nat) (kd lf rt : Nat → Nat) (g : Nat) (aw : Int64) (M : Mem) (w : Int64) (o : Option (Int64 × Mem)) : Prop := ∃ R M1, o = some (R, M1) ∧ ClO m kd lf rt g (St aw) (St w) (St R) ∧ Fr S84 M M1 ∧ DcM m kd lf rt g aw M1
def ClK (m : Nat) (kd lf rt : Nat → Nat) (g : Nat) (aw : Int64) (cl : Nat → List Value → Mem → Option (Int64 × Mem)) (cnt : Nat) : Prop := ∀ w M deep, DcM m kd lf rt g aw M → Inr m w → cnt ≤ cP (St w) 40 → deep ≤ cP (St w) 40 → ClA2 m kd lf rt g aw M w (cl 0 [.ref 80, .long w, .int (nI deep)] M)
theorem cm_no (hD : DcP M m kd lf rt) (w : Int64) : (lg_cmp (w &&& M.2.2.2.1 80 9) 0 = 0) ↔ Con m kd (St w) := by
  rw [lg_cmp0]
  constructor
  · intro h i hi e q
    have := congrArg (fun z => b64 z i) h
    simp only [b64_and, b64_0] at this
    rw [q, (hD.2.2.2 i).mpr ⟨hi, e⟩] at this
    cases this
  · intro h
    apply b64_ext
    intro j hj
    rw [b64_and, b64_0]
    cases h1 : b64 w j with
    | false => rfl
    | true =>
      cases h2 : b64 (M.2.2.2.1 80 9) j with
      | false => rfl
      | true =>
        obtain ⟨q1, q2⟩ := (hD.2.2.2 j).mp h2
        exact absurd h1 (h j q1 q2)
theorem St_or {w : Int64} {a : Nat} (ha : a < 40) : St (w ||| bt a) = fun j => St w j ∨ j = a := by
  funext j
  apply propext
  show b64 (w ||| bt a) j = true ↔ b64 w j = true ∨ j = a
  rw [b64_or, Bool.or_eq_true, bt_mem ha]
  exact ⟨fun q => q.imp id (fun r => r.symm), fun q => q.imp id (fun r => r.symm)⟩
/-- part i is tried -/
def Tst (m : Nat) (kd lf rt : Nat → Nat) (g : Nat) (aw w v : Int64) (i : Nat) : Prop := kd i = 9 → St v i → ¬ St w i → ¬ St w (lf i) → ∃ R, ClO m kd lf rt g (St aw) (fun j => St w j ∨ j = lf i) R ∧ ¬ R (rt i)
def Cov (m : Nat) (kd lf rt : Nat → Nat) (g : Nat) (aw w v : Int64) (t I : Nat) : Prop := ∀ i, i < m → Tst m kd lf rt g aw w v i ∨ ∃ d, d < m - I ∧ (t + d) % m = i
theorem Cov.ini {w v : Int64} (hm : 0 < m) (t : Nat) : Cov m kd lf rt g aw w v t 0 := fun i hi => by
  refine Or.inr ⟨(i + m - t % m) % m, by rw [Nat.sub_zero]; exact Nat.mod_lt _ hm, ?_⟩
  have h1 := Nat.mod_lt t hm
  rw [Nat.add_mod_mod, ← Nat.mod_add_mod, show t % m + (i + m - t % m) = i + m by omega, Nat.add_mod_right, Nat.mod_eq_of_lt hi]
theorem Cov.stp {w v : Int64} {t I : Nat} (h : Cov m kd lf rt g aw w v t I) (ht : Tst m kd lf rt g aw w v (t % m)) : Cov m kd lf rt g aw w v (t + 1) (I + 1) := fun i hi => by
  rcases h i hi with q | ⟨d, d1, d2⟩
  · exact Or.inl q
  · cases d with
    | zero =>
      rw [Nat.add_zero] at d2
      rw [← d2]
      exact Or.inl ht
    | succ d => exact Or.inr ⟨d, by omega, by rw [show t + 1 + d = t + (d + 1) by omega]; exact d2⟩
theorem DcM.fr (h : DcM m kd lf rt g aw M) (F : Fr S84 M M1) (hM : MmO M1 (fun k v => ClO m kd lf rt g (St aw) (St k) (St v))) : DcM m kd lf rt g aw M1 := ⟨F.Wd h.1, h.2.1.s84 F, h.2.2.1.s84 F, hM⟩
end TI7
