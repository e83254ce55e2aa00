/-! the class's answers and what its calls leave -/
def inR (x : Int32) (k : Nat) : Prop := ¬ x < 0 ∧ ¬ nI k ≤ x
theorem inR_ex {x : Int32} {k : Nat} (hk : k < 2 ^ 31) (h : inR x k) : ∃ a : Nat, a < k ∧ x = nI a := by
  rcases pk_ix x hk with z | z | z
  · exact absurd z h.1
  · exact absurd z h.2
  · exact z
theorem inR_nI {a k : Nat} (hk : k < 2 ^ 31) (h : a < k) : inR (nI a) k := ⟨nI_pos (by omega), nI_ge h hk⟩
def oS {α : Type} (o : Option Nat) (z : α) (f : Nat → α) : α := match o with
  | none => z
  | some j => f j
theorem oS_n {α : Type} {o : Option Nat} {z : α} {f : Nat → α} (h : o = none) : oS o z f = z := by rw [h]; rfl
theorem oS_s {α : Type} {o : Option Nat} {z : α} {f : Nat → α} {j : Nat} (h : o = some j) : oS o z f = f j := by rw [h]; rfl
noncomputable def src (n : Nat) (d : Nat → BitVec 8) : Option Nat := cI (fft n 0 d = 0) (some 0) (cI (fft n 1 d = 0) (some 1) none)
def gdR (n : Nat) (d : Nat → BitVec 8) : Prop := zx (d 510) = nI 85 ∧ zx (d 511) = nI 170 ∧ zx (d 450) = nI 238 ∧ num d 454 4 = 1 ∧ num d 458 4 = (nI (n - 1)).toInt64 ∧ isZ d 462 48
def wGd (n : Nat) (d : Nat → BitVec 8) : Nat → BitVec 8 := setN (setN (setN (setN (setN (clr d 0 512) 450 1 238) 454 4 1) 458 4 (nI (n - 1)).toInt64) 510 1 85) 511 1 170
def wTb (n j : Nat) (d : Nat → BitVec 8) : Nat → BitVec 8 := wrt n 1 j (wrt n 0 j d)
noncomputable def pkR (n : Nat) (d : Nat → BitVec 8) (x y : Int32) : Int32 := cI (inR x n ∧ inR y 512) (zx (d (x.toNatClampNeg * 512 + y.toNatClampNeg))) (-1)
noncomputable def poR (n : Nat) (d : Nat → BitVec 8) (x y z : Int32) : Int32 × (Nat → BitVec 8) := cI (inR x n ∧ inR y 512) (1, setN d (x.toNatClampNeg * 512 + y.toNatClampNeg) 1 z.toInt64) (0, d)
noncomputable def seR (n : Nat) (d : Nat → BitVec 8) (x : Int32) : Int32 × (Nat → BitVec 8) := cI (inR x 2) (1, wSm n x.toNatClampNeg d) (0, d)
noncomputable def faR (n : Nat) (d : Nat → BitVec 8) (x : Int32) : Int32 := cI (inR x 2) (fft n x.toNatClampNeg d) (-1)
noncomputable def foR (n : Nat) (d : Nat → BitVec 8) (x : Int64) : Nat → BitVec 8 := wTb n 0 (guid (clr (wGd n d) (cAr n 0) 1024) (cHd n 0 + 56) x)
def mkE (d : Nat → BitVec 8) (p : Nat) (x y : Int32) (t k a : Int64) : Nat → BitVec 8 := setN (setN (setN (guid (guid (clr d p 128) p t) (p + 16) k) (p + 32) 8 x.toInt64) (p + 40) 8 y.toInt64) (p + 48) 8 a
noncomputable def maR (n : Nat) (d : Nat → BitVec 8) (x y : Int32) (t k a : Int64) : Int32 × (Nat → BitVec 8) := oS (src n d) (-1, d) (fun j => cI (t = 0) (-2, d) (cI (usa n x.toInt64 y.toInt64) (cI (tak d (cAr n j) x.toInt64 y.toInt64 (-1)) (-4, d) (cI (mkU d (cAr n j) k (gT k)) (-5, d) (cI (loR (frE d (cAr n j)) 8 0 = -1) (-6, d) (loR (frE d (cAr n j)) 8 0, wTb n j (mkE d (cAr n j + (loR (frE d (cAr n j)) 8 0).toNatClampNeg * 128) x y t k a))))) (-3, d)))
def ptQ (n : Nat) (d : Nat → BitVec 8) (j : Nat) (x : Int32) : Prop := inR x 8 ∧ ¬ frE d (cAr n j) x.toNatClampNeg
noncomputable def rmR (n : Nat) (d : Nat → BitVec 8) (x : Int32) : Int32 × (Nat → BitVec 8) := oS (src n d) (0, d) (fun j => cI (ptQ n d j x) (1, wTb n j (clr d (cAr n j + x.toNatClampNeg * 128) 128)) (0, d))
noncomputable def rnR (n : Nat) (d : Nat → BitVec 8) (x y z : Int32) : Int32 × (Nat → BitVec 8) := oS (src n d) (0, d) (fun j => cI (ptQ n d j x ∧ inR y 36) (1, wTb n j (setN d (cAr n j + x.toNatClampNeg * 128 + 56 + 2 * y.toNatClampNeg) 2 z.toInt64)) (0, d))
noncomputable def moR (n : Nat) (d : Nat → BitVec 8) (x y z : Int32) : Int32 × (Nat → BitVec 8) := oS (src n d) (0, d) (fun j => cI (ptQ n d j x ∧ usa n y.toInt64 z.toInt64 ∧ ¬ tak d (cAr n j) y.toInt64 z.toInt64 x) (1, wTb n j (setN (setN d (cAr n j + x.toNatClampNeg * 128 + 32) 8 y.toInt64) (cAr n j + x.toNatClampNeg * 128 + 40) 8 z.toInt64)) (0, d))
noncomputable def reT (n : Nat) (d : Nat → BitVec 8) : Nat := cI (fft n 0 d = 0) (cI (fft n 1 d = 0) (cI (lik n 0 1 d) 0 8) 4) 2
noncomputable def reD (n : Nat) (d : Nat → BitVec 8) : Nat → BitVec 8 := cI (fft n 0 d = 0) (cI (fft n 1 d = 0) (cI (lik n 0 1 d) d (wTb n 0 d)) (wTb n 0 d)) (wTb n 1 d)
noncomputable def reR (n : Nat) (d : Nat → BitVec 8) : Int32 × (Nat → BitVec 8) := oS (src n d) (-1, d) (fun _ => cI (gdR n (reD n d)) (nI (reT n d), reD n d) (nI (reT n d + 1), wGd n (reD n d)))
noncomputable def coR (n : Nat) (d : Nat → BitVec 8) : Int32 := oS (src n d) (-1) (fun j => nI (cnN (fun i => ¬ frE d (cAr n j) i) 8))
noncomputable def roR (n : Nat) (d : Nat → BitVec 8) : Int32 := oS (src n d) (-1) (fun j => unU d (cAr n j) (nI (n - 4 - 4 + 1)) 8)
def fdO (y : Nat) : Nat := if y < 3 then 32 + 8 * y else 8 * (y - 3)
noncomputable def fiR (n : Nat) (d : Nat → BitVec 8) (x y : Int32) : Int64 := oS (src n d) 0 (fun j => cI (inR x 8 ∧ inR y 7) (num d (cAr n j + x.toNatClampNeg * 128 + fdO y.toNatClampNeg) 8) 0)
noncomputable def leR (n : Nat) (d : Nat → BitVec 8) (x y : Int32) : Int32 := oS (src n d) (nI 0) (fun j => cI (inR x 8 ∧ inR y 36) (((num d (cAr n j + x.toNatClampNeg * 128 + 56 + 2 * y.toNatClampNeg) 2).toInt32.toUInt32 % 65536).toInt32) (nI 0))
noncomputable def suR (n : Nat) (d : Nat → BitVec 8) (x y z : Int32) : Int32 := cI (inR x n ∧ ¬ y < 0 ∧ ¬ nI 512 < y ∧ ¬ z < 0 ∧ z ≤ nI 512 - y) (smO d (x.toNatClampNeg * 512 + y.toNatClampNeg) z.toNatClampNeg) (nI 0)
theorem loR_ex8 {P : Nat → Prop} : ∀ q i, ¬ loR P q i = -1 → ∃ a, i ≤ a ∧ a < i + q ∧ loR P q i = nI a ∧ P a ∧ ∀ k, i ≤ k → k < a → ¬ P k := by
  intro q
  induction q with
  | zero => intro i h; exact absurd rfl h
  | succ q ih =>
    intro i h
    by_cases hp : P i
    · exact ⟨i, Nat.le_refl _, by omega, cI_t hp, hp, fun k h1 h2 => absurd h2 (by omega)⟩
    · have e : loR P (q + 1) i = loR P q (i + 1) := cI_f hp
      rw [e] at h ⊢
      obtain ⟨a, h1, h2, h3, h4, h5⟩ := ih (i + 1) h
      refine ⟨a, by omega, by omega, h3, h4, fun k k1 k2 => ?_⟩
      rcases Nat.lt_or_ge i k with z | z
      · exact h5 k z k2
      · rw [show k = i by omega]; exact hp
theorem loR_ex {P : Nat → Prop} (h : ¬ loR P 8 0 = -1) : ∃ a, a < 8 ∧ loR P 8 0 = nI a := by
  obtain ⟨a, -, h2, h3, -⟩ := loR_ex8 8 0 h
  exact ⟨a, by omega, h3⟩
theorem nR7 {y : Int32} (h : ¬ inR y 7) : y.toInt < 0 ∨ (6 : Int) < y.toInt := by
  by_cases h1 : y < 0
  · exact Or.inl (by have q := Int32.lt_iff_toInt_lt.mp h1; simpa using q)
  · by_cases h2 : nI 7 ≤ y
    · refine Or.inr ?_
      have q := Int32.le_iff_toInt_le.mp h2
      rw [nI_toInt (by decide)] at q
      omega
    · exact absurd ⟨h1, h2⟩ h
theorem nR2 {x : Int32} (h : inR x 2) (h0 : ¬ x = 0) (h1 : ¬ x = nI 1) : False := by
  obtain ⟨a, ha, rfl⟩ := inR_ex (by decide) h
  rcases (show a = 0 ∨ a = 1 by omega) with rfl | rfl
  · exact h0 rfl
  · exact h1 rfl
theorem cl_nI {a : Nat} (h : a < 4096) : (nI a).toNatClampNeg = a := nI_clamp (by omega)
