/-! what the reference writes -/
def cpA (t d : Nat → BitVec 8) (a k : Nat) : Nat → BitVec 8 := fun p => if a ≤ p ∧ p < a + k then t (p - a) else d p
theorem cpA_0 (t d : Nat → BitVec 8) (a : Nat) : cpA t d a 0 = d := by
  funext p
  unfold cpA
  rw [if_neg (by omega)]
theorem cpA_s (t d : Nat → BitVec 8) (a i : Nat) : va_up (cpA t d a i) (a + i) (t i) = cpA t d a (i + 1) := by
  funext p
  unfold va_up cpA
  by_cases h : p = a + i
  · subst h
    rw [if_pos rfl, if_pos (by omega), show a + i - a = i by omega]
  · rw [if_neg h]
    by_cases h2 : a ≤ p ∧ p < a + i
    · rw [if_pos h2, if_pos (by omega)]
    · rw [if_neg h2, if_neg (by omega)]
def mHd (n j : Nat) (mk d : Nat → BitVec 8) : Nat → BitVec 8 :=
  setN (setN (setN (cpA mk (setN (setN (setN (setN (setN (setN (setN (clr d (cHd n j) 512) (cHd n j) 8 6075990659671082565) (cHd n j + 8) 4 65536) (cHd n j + 12) 4 92) (cHd n j + 24) 8 (nI (cOwn n j)).toInt64) (cHd n j + 32) 8 (nI (cOth n j)).toInt64) (cHd n j + 40) 8 4) (cHd n j + 48) 8 (nI (n - 4)).toInt64) (cHd n j + 56) 16) (cHd n j + 72) 8 (nI (cArr n j)).toInt64) (cHd n j + 80) 4 8) (cHd n j + 84) 4 128
def mWc (n j : Nat) (t mk d : Nat → BitVec 8) : Nat → BitVec 8 := wSm n j (mHd n j mk (cpA t d (cAr n j) 1024))
def wTm (n : Nat) (t mk d : Nat → BitVec 8) : Nat → BitVec 8 := mWc n 1 t mk (mWc n 0 t mk d)
def mO (d : Nat → BitVec 8) (v : Nat → Nat → BitVec 8) : Prop := ∃ t mk, v = mU d t mk
theorem wG_eq (n : Nat) (d : Nat → BitVec 8) : setN (setN (va_up (va_up (va_up (clr d 0 512) 510 85) 511 170) 450 238) 454 4 1) 458 4 (nI (n - 1)).toInt64 = wGd n d := by
  have b1 : byt 238 0 = 238 := by decide +kernel
  have b2 : byt 85 0 = 85 := by decide +kernel
  have b3 : byt 170 0 = 170 := by decide +kernel
  funext p
  unfold wGd setN va_up clr
  by_cases h1 : p = 510
  · subst h1
    simp [b2]
  · by_cases h2 : p = 511
    · subst h2
      simp [b3]
    · by_cases h3 : p = 450
      · subst h3
        simp [b1]
      · simp only [h1, h2, h3, if_false]
        rw [if_neg (show ¬ (511 ≤ p ∧ p < 511 + 1) by omega), if_neg (show ¬ (510 ≤ p ∧ p < 510 + 1) by omega), if_neg (show ¬ (450 ≤ p ∧ p < 450 + 1) by omega)]
theorem up_ex {x : Int32} {k : Nat} (hk : k < 2 ^ 30) (h1 : ¬ x < 0) (h2 : ¬ nI k < x) : ∃ a, a < k + 1 ∧ x = nI a := by
  obtain ⟨a, ha, rfl⟩ := nI_of h1
  refine ⟨a, ?_, rfl⟩
  rcases Nat.lt_or_ge k a with z | z
  · exact absurd (nI_lt z (by omega)) h2
  · omega
theorem up_in {x : Int32} {k : Nat} (hk : k < 2 ^ 30) (h1 : ¬ x < 0) (h2 : ¬ nI k < x) : inR x (k + 1) := by
  obtain ⟨a, ha, rfl⟩ := up_ex hk h1 h2
  exact inR_nI (by omega) ha
theorem in_up {x : Int32} {k : Nat} (hk : k < 2 ^ 30) (h : inR x (k + 1)) : ¬ nI k < x := by
  obtain ⟨a, ha, rfl⟩ := inR_ex (by omega) h
  exact nI_nlt (by omega) (by omega)
theorem loR_at {P : Nat → Prop} {i : Nat} (hi : i < 8) (h1 : ∀ p, p < i → ¬ P p) (h2 : P i) : loR P 8 0 = nI i := by
  have key : ∀ a, a ≤ i → loR P 8 0 = loR P (8 - a) a := by
    intro a
    induction a with
    | zero => intro _; rfl
    | succ a ih => intro h; rw [ih (by omega), loR_f (by omega) (h1 a (by omega))]
  rw [key i (Nat.le_refl _), loR_t hi h2]
theorem loR_no {P : Nat → Prop} (h1 : ∀ p, p < 8 → ¬ P p) : loR P 8 0 = -1 := by
  refine Classical.byContradiction (fun h => ?_)
  obtain ⟨a, -, h3, -, h5, -⟩ := loR_ex8 8 0 h
  exact h1 a (by omega) h5
theorem po_eq (d : Nat → BitVec 8) (a : Nat) (z : Int32) : va_up d a (lo8 z) = setN d a 1 z.toInt64 := by
  rw [← setN_s, setN_0, byt_0]
  rfl
theorem fi_out {n : Nat} {d : Nat → BitVec 8} {x y : Int32} (h : ¬ (inR x 8 ∧ inR y 7)) : fiR n d x y = 0 := by
  unfold fiR
  cases hs : src n d with
  | none => rfl
  | some j => exact cI_f h
theorem fi_no {n : Nat} {d : Nat → BitVec 8} {x y : Int32} (h : src n d = none) : fiR n d x y = 0 := by
  unfold fiR
  rw [oS_n h]
theorem le_out {n : Nat} {d : Nat → BitVec 8} {x y : Int32} (h : ¬ (inR x 8 ∧ inR y 36)) : leR n d x y = nI 0 := by
  unfold leR
  cases hs : src n d with
  | none => rfl
  | some j => exact cI_f h
theorem le_no {n : Nat} {d : Nat → BitVec 8} {x y : Int32} (h : src n d = none) : leR n d x y = nI 0 := by
  unfold leR
  rw [oS_n h]
theorem src_lt {n : Nat} {d : Nat → BitVec 8} {j : Nat} (h : src n d = some j) : j < 2 := by
  unfold src at h
  by_cases h0 : fft n 0 d = 0
  · rw [cI_t h0] at h
    cases h; decide
  · by_cases h1 : fft n 1 d = 0
    · rw [cI_f h0, cI_t h1] at h
      cases h; decide
    · rw [cI_f h0, cI_f h1] at h
      cases h
