/-! what a copy says -/
def gT (x : Int64) : Int64 := x * 2862933555777941757 + 3037000493
def guid (d : Nat → BitVec 8) (p : Nat) (x : Int64) : Nat → BitVec 8 := setN (setN d p 8 x) (p + 8) 8 (gT x)
def frE (d : Nat → BitVec 8) (b i : Nat) : Prop := isZ d (b + i * 128) 16
def fsE (d : Nat → BitVec 8) (b i : Nat) : Int64 := num d (b + i * 128 + 32) 8
def laE (d : Nat → BitVec 8) (b i : Nat) : Int64 := num d (b + i * 128 + 40) 8
def usa (n : Nat) (x y : Int64) : Prop := ¬ x < 4 ∧ ¬ (nI (n - 4)).toInt64 < y ∧ ¬ y < x
def tkQ (d : Nat → BitVec 8) (b : Nat) (x y : Int64) (z : Int32) (i : Nat) : Prop := ¬ nI i = z ∧ ¬ frE d b i ∧ ¬ y < fsE d b i ∧ ¬ laE d b i < x
def tak (d : Nat → BitVec 8) (b : Nat) (x y : Int64) (z : Int32) : Prop := ∃ i, i < 8 ∧ tkQ d b x y z i
def mkQ (d : Nat → BitVec 8) (b : Nat) (x y : Int64) (i : Nat) : Prop := ¬ frE d b i ∧ num d (b + i * 128 + 16) 8 = x ∧ num d (b + i * 128 + 24) 8 = y
def mkU (d : Nat → BitVec 8) (b : Nat) (x y : Int64) : Prop := ∃ i, i < 8 ∧ mkQ d b x y i
def mrQ (d : Nat → BitVec 8) (b i k : Nat) : Prop := ¬ frE d b k ∧ alk d d (b + k * 128 + 16) (b + i * 128 + 16) 16
def mRe (d : Nat → BitVec 8) (b i : Nat) : Prop := ∃ k, k < i ∧ mrQ d b i k
def enQ (n : Nat) (d : Nat → BitVec 8) (b i : Nat) : Prop := frE d b i ∨ (usa n (fsE d b i) (laE d b i) ∧ ¬ tak d b (fsE d b i) (laE d b i) (nI i) ∧ ¬ mRe d b i)
def enR (n : Nat) (d : Nat → BitVec 8) (b : Nat) : Prop := ∀ i, i < 8 → enQ n d b i
def kiR (d : Nat → BitVec 8) (p : Nat) : Prop := num d (p + 8) 4 = 65536 ∧ num d (p + 12) 4 = 92 ∧ num d (p + 20) 4 = 0
def laR (n j : Nat) (d : Nat → BitVec 8) : Prop := num d (cHd n j + 32) 8 = (nI (cOth n j)).toInt64 ∧ num d (cHd n j + 40) 8 = 4 ∧ num d (cHd n j + 48) 8 = (nI (n - 4)).toInt64 ∧ num d (cHd n j + 72) 8 = (nI (cArr n j)).toInt64 ∧ num d (cHd n j + 80) 4 = 8 ∧ num d (cHd n j + 84) 4 = 128
def sgV : Int64 := 6075990659671082565
noncomputable def fft (n j : Nat) (d : Nat → BitVec 8) : Int32 := cI (num d (cHd n j) 8 = 6075990659671082565) (cI (kiR d (cHd n j)) (cI ((num d (cHd n j + 16) 4).toInt32 = smW d (cHd n j + 16) (cHd n j) 92) (cI (num d (cHd n j + 24) 8 = (nI (cOwn n j)).toInt64) (cI (laR n j d) (cI ((num d (cHd n j + 88) 4).toInt32 = smO d (cAr n j) 1024) (cI (enR n d (cAr n j)) (nI 0) (nI 7)) (nI 6)) (nI 5)) (nI 4)) (nI 3)) (nI 2)) (nI 1)
def wSm (n j : Nat) (d : Nat → BitVec 8) : Nat → BitVec 8 := setN (setN d (cHd n j + 88) 4 (smO d (cAr n j) 1024).toInt64) (cHd n j + 16) 4 (smW (setN d (cHd n j + 88) 4 (smO d (cAr n j) 1024).toInt64) (cHd n j + 16) (cHd n j) 92).toInt64
def wHd (n j : Nat) (x y : Int64) (d : Nat → BitVec 8) : Nat → BitVec 8 :=
  setN (setN (setN (setN (setN (setN (setN (setN (setN (setN (setN (setN (clr d (cHd n j) 512) (cHd n j) 8 6075990659671082565) (cHd n j + 8) 4 65536) (cHd n j + 12) 4 92) (cHd n j + 24) 8 (nI (cOwn n j)).toInt64) (cHd n j + 32) 8 (nI (cOth n j)).toInt64) (cHd n j + 40) 8 4) (cHd n j + 48) 8 (nI (n - 4)).toInt64) (cHd n j + 56) 8 x) (cHd n j + 56 + 8) 8 y) (cHd n j + 72) 8 (nI (cArr n j)).toInt64) (cHd n j + 80) 4 8) (cHd n j + 84) 4 128
def wrt (n j i : Nat) (d : Nat → BitVec 8) : Nat → BitVec 8 := wSm n j (wHd n j (num d (cHd n i + 56) 8) (num d (cHd n i + 56 + 8) 8) (cpy d (cAr n i) (cAr n j) 1024))
def lik (n j i : Nat) (d : Nat → BitVec 8) : Prop := alk d d (cAr n j) (cAr n i) 1024 ∧ alk d d (cHd n j + 56) (cHd n i + 56) 16
noncomputable def loR (P : Nat → Prop) : Nat → Nat → Int32
  | 0, _ => -1
  | q + 1, i => cI (P i) (nI i) (loR P q (i + 1))
noncomputable def cnN (P : Nat → Prop) : Nat → Nat
  | 0 => 0
  | i + 1 => cnN P i + cI (P i) 1 0
noncomputable def unU (d : Nat → BitVec 8) (b : Nat) (z : Int32) : Nat → Int32
  | 0 => z
  | i + 1 => cI (frE d b i) (unU d b z i) (unU d b z i - (laE d b i - fsE d b i + 1).toInt32)
theorem loR_t {P : Nat → Prop} {i : Nat} (hi : i < 8) (h : P i) : loR P (8 - i) i = nI i := by
  rw [show 8 - i = (8 - i - 1) + 1 by omega]
  exact cI_t h
theorem loR_f {P : Nat → Prop} {i : Nat} (hi : i < 8) (h : ¬ P i) : loR P (8 - i) i = loR P (8 - (i + 1)) (i + 1) := by
  rw [show 8 - i = (8 - (i + 1)) + 1 by omega]
  exact cI_f h
theorem cnN_le (P : Nat → Prop) (i : Nat) : cnN P i ≤ i := by
  induction i with
  | zero => exact Nat.le_refl _
  | succ i ih =>
    show cnN P i + cI (P i) 1 0 ≤ i + 1
    by_cases h : P i
    · rw [cI_t h]; omega
    · rw [cI_f h]; omega
theorem cnN_t {P : Nat → Prop} {i : Nat} (h : P i) : cnN P i + 1 = cnN P (i + 1) := by
  show _ = cnN P i + cI (P i) 1 0
  rw [cI_t h]
theorem cnN_f {P : Nat → Prop} {i : Nat} (h : ¬ P i) : cnN P i = cnN P (i + 1) := by
  show _ = cnN P i + cI (P i) 1 0
  rw [cI_f h, Nat.add_zero]
theorem nex {P : Nat → Prop} {k : Nat} (h : ∀ i, i < k → ¬ P i) : ¬ ∃ i, i < k ∧ P i := fun ⟨i, h1, h2⟩ => h i h1 h2
