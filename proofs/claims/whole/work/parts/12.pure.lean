/-! what the bytes say -/
def num (d : Nat → BitVec 8) : Nat → Nat → Int64
  | _, 0 => 0
  | a, k + 1 => (num d (a + 1) k <<< ((nI 8).toInt64 &&& 63)) ||| (zx (d a)).toInt64
def byt (v : Int64) (i : Nat) : BitVec 8 := lo8 ((v.toUInt64 >>> ((nI (8 * i)).toInt64.toUInt64 &&& Int64.toUInt64 63)).toInt64.toInt32)
def setN (d : Nat → BitVec 8) (a k : Nat) (v : Int64) : Nat → BitVec 8 := fun q => if a ≤ q ∧ q < a + k then byt v (q - a) else d q
def clr (d : Nat → BitVec 8) (a k : Nat) : Nat → BitVec 8 := fun q => if a ≤ q ∧ q < a + k then 0 else d q
def cpy (d : Nat → BitVec 8) (a b k : Nat) : Nat → BitVec 8 := fun q => if b ≤ q ∧ q < b + k then d (a + (q - b)) else d q
def isZ (d : Nat → BitVec 8) (a k : Nat) : Prop := ∀ i, i < k → d (a + i) = 0
def alk (d e : Nat → BitVec 8) (a b k : Nat) : Prop := ∀ i, i < k → d (a + i) = e (b + i)
def hfs (x : Int32) : Int32 := (x.toUInt32 >>> ((nI 4).toUInt32 &&& Int32.toUInt32 31)).toInt32 ^^^ four (x &&& nI 15).toNatClampNeg
def adB (x v : Int32) : Int32 := hfs (hfs (x ^^^ v))
def crc (d : Nat → BitVec 8) (x : Int32) (a : Nat) : Nat → Int32
  | 0 => x
  | k + 1 => adB (crc d x a k) (zx (d (a + k)))
def smO (d : Nat → BitVec 8) (a k : Nat) : Int32 := -1 - crc d (-1) a k
def smW (d : Nat → BitVec 8) (c a k : Nat) : Int32 := -1 - crc d (adB (adB (adB (adB (crc d (-1) a (c - a)) (nI 0)) (nI 0)) (nI 0)) (nI 0)) (c + 4) (a + k - c - 4)
theorem cpy_sx (d : Nat → BitVec 8) (a b k : Nat) : (fun q => sx (cpy d a b k q)) = va_cpy (fun q => sx (d q)) (fun q => sx (d q)) a b k := by
  funext q
  unfold cpy va_cpy
  split <;> rfl
theorem ge_t {i k : Nat} (hi : i ≤ k) (hk : k < 2 ^ 31) (c : nI k ≤ nI i) : i = k := by
  have h := (nI_leI (by omega) (by omega)).mp c
  omega
theorem ge_f {i k : Nat} (hk : k < 2 ^ 31) (hi : i < 2 ^ 31) (c : ¬ nI k ≤ nI i) : i < k := by
  rcases Nat.lt_or_ge i k with z | z
  · exact z
  · exact absurd ((nI_leI (by omega) (by omega)).mpr z) c
theorem nI_m1 (x : Int32) : x + Int32.ofInt (-1) = x - nI 1 := by
  rw [Int32.sub_eq_add_neg]
  rfl
theorem dn_t {i : Nat} (hi : i < 2 ^ 31) (c : nI i - nI 1 < 0) : i = 0 := by
  cases i with
  | zero => rfl
  | succ i => exact absurd c (by rw [show nI (i + 1) - nI 1 = nI i from nI_pred i]; exact nI_pos (by omega))
theorem dn_f {i : Nat} (c : ¬ nI i - nI 1 < 0) : ∃ z, i = z + 1 := by
  cases i with
  | zero => exact absurd (by decide) c
  | succ i => exact ⟨i, rfl⟩
theorem num_step {d : Nat → BitVec 8} {a i k : Nat} (h : i + 1 ≤ k) : (num d (a + (i + 1)) (k - (i + 1)) <<< ((nI 8).toInt64 &&& 63)) ||| (zx (d (a + i))).toInt64 = num d (a + i) (k - i) := by
  rw [show k - i = (k - (i + 1)) + 1 by omega]
  rfl
theorem lo8_b (z : Int32) : lo8 z.toInt8.toInt32 = lo8 z := by
  have h : z.toInt8.toInt32 = sx (lo8 z) := nar_sx z
  rw [h, lo_sx]
theorem setN_0 (d : Nat → BitVec 8) (a : Nat) (v : Int64) : setN d a 0 v = d := by
  funext q
  unfold setN
  rw [if_neg (by omega)]
theorem setN_s (d : Nat → BitVec 8) (a i : Nat) (v : Int64) : va_up (setN d a i v) (a + i) (byt v i) = setN d a (i + 1) v := by
  funext q
  unfold va_up setN
  by_cases h : q = a + i
  · subst h
    rw [if_pos rfl, if_pos (by omega), show a + i - a = i by omega]
  · rw [if_neg h]
    by_cases h2 : a ≤ q ∧ q < a + i
    · rw [if_pos h2, if_pos (by omega)]
    · rw [if_neg h2, if_neg (by omega)]
theorem clr_0 (d : Nat → BitVec 8) (a : Nat) : clr d a 0 = d := by
  funext q
  unfold clr
  rw [if_neg (by omega)]
theorem clr_s (d : Nat → BitVec 8) (a i : Nat) : va_up (clr d a i) (a + i) 0 = clr d a (i + 1) := by
  funext q
  unfold va_up clr
  by_cases h : q = a + i
  · subst h
    rw [if_pos rfl, if_pos (by omega)]
  · rw [if_neg h]
    by_cases h2 : a ≤ q ∧ q < a + i
    · rw [if_pos h2, if_pos (by omega)]
    · rw [if_neg h2, if_neg (by omega)]
theorem lt_a {P : Nat → Prop} {i : Nat} (h : ∀ j, j < i → P j) (hi : P i) : ∀ j, j < i + 1 → P j := by
  intro j hj
  rcases Nat.lt_succ_iff_lt_or_eq.mp hj with z | z
  · exact h j z
  · rw [z]; exact hi
