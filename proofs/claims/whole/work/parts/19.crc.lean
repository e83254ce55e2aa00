/-! the sum's step by bits and by the table -/
def sh1 (x : Int32) : Int32 := (x.toUInt32 >>> ((nI 1).toUInt32 &&& Int32.toUInt32 31)).toInt32
def st1 (x : Int32) : Int32 := if x &&& nI 1 = nI 1 then sh1 x ^^^ (-306674912) else sh1 x
def stN (x : Int32) : Nat → Int32
  | 0 => x
  | k + 1 => st1 (stN x k)
def bst (b : BitVec 32) : BitVec 32 := (b >>> 1) ^^^ (if b.getLsbD 0 then 3988292384#32 else 0#32)
theorem bst_x (a b : BitVec 32) : bst (a ^^^ b) = bst a ^^^ bst b := by
  unfold bst
  rw [BitVec.ushiftRight_xor_distrib, BitVec.getLsbD_xor]
  cases ha : a.getLsbD 0 <;> cases hb : b.getLsbD 0 <;> simp
  · rw [BitVec.xor_assoc]
  · rw [BitVec.xor_assoc, BitVec.xor_comm (b >>> 1), ← BitVec.xor_assoc]
  · apply BitVec.eq_of_getLsbD_eq
    intro i hi
    simp only [BitVec.getLsbD_xor]
    cases (a >>> 1).getLsbD i <;> cases (b >>> 1).getLsbD i <;> cases (3988292384#32).getLsbD i <;> rfl
theorem bst_0 {b : BitVec 32} (h : b.getLsbD 0 = false) : bst b = b >>> 1 := by
  unfold bst
  rw [h]
  simp
theorem bst_4 (b : BitVec 32) : bst (bst (bst (bst b))) = (b >>> 4) ^^^ (four (b.toNat % 16)).toBitVec := by
  have e15 : ∀ i, i < 32 → (15#32).getLsbD i = decide (i < 4) := by decide +kernel
  have hlo : b &&& 15#32 = BitVec.ofNat 32 (b.toNat % 16) := by
    apply BitVec.eq_of_toNat_eq
    rw [BitVec.toNat_and, BitVec.toNat_ofNat, BitVec.toNat_ofNat]
    rw [show 15 % 2 ^ 32 = 2 ^ 4 - 1 by decide, Nat.and_two_pow_sub_one_eq_mod]
    have h1 : b.toNat % 2 ^ 4 < 16 := Nat.mod_lt _ (by decide)
    rw [Nat.mod_eq_of_lt (Nat.lt_trans h1 (by decide))]
  have hsp : b = ((b >>> 4) <<< 4) ^^^ BitVec.ofNat 32 (b.toNat % 16) := by
    rw [← hlo]
    apply BitVec.eq_of_getLsbD_eq
    intro i hi
    rw [BitVec.getLsbD_xor, BitVec.getLsbD_and, e15 i hi, BitVec.getLsbD_shiftLeft, BitVec.getLsbD_ushiftRight]
    by_cases h4 : i < 4
    · simp [h4, hi]
    · simp [h4, hi, show 4 + (i - 4) = i by omega]
  have hh : ∀ i, i < 4 → ((b >>> 4) <<< 4).getLsbD i = false := by
    intro i hi
    rw [BitVec.getLsbD_shiftLeft]
    simp [hi]
  have h1 : bst (bst (bst (bst ((b >>> 4) <<< 4)))) = b >>> 4 := by
    rw [bst_0 (b := (b >>> 4) <<< 4) (hh 0 (by decide)), bst_0 (b := ((b >>> 4) <<< 4) >>> 1) (by rw [BitVec.getLsbD_ushiftRight]; exact hh 1 (by decide)), bst_0 (b := (((b >>> 4) <<< 4) >>> 1) >>> 1) (by rw [BitVec.getLsbD_ushiftRight, BitVec.getLsbD_ushiftRight]; exact hh 2 (by decide)), bst_0 (b := ((((b >>> 4) <<< 4) >>> 1) >>> 1) >>> 1) (by rw [BitVec.getLsbD_ushiftRight, BitVec.getLsbD_ushiftRight, BitVec.getLsbD_ushiftRight]; exact hh 3 (by decide))]
    apply BitVec.eq_of_getLsbD_eq
    intro i hi
    simp only [BitVec.getLsbD_ushiftRight, BitVec.getLsbD_shiftLeft]
    by_cases h28 : 4 + i < 32
    · simp [show 1 + (1 + (1 + (1 + i))) = 4 + i by omega, h28]
    · rw [BitVec.getLsbD_of_ge b (4 + i) (by omega)]
      simp [show 1 + (1 + (1 + (1 + i))) = 4 + i by omega, h28]
  have h2 : ∀ k, k < 16 → bst (bst (bst (bst (BitVec.ofNat 32 k)))) = (four k).toBitVec := by decide +kernel
  have h3 : bst (bst (bst (bst b))) = bst (bst (bst (bst (((b >>> 4) <<< 4) ^^^ BitVec.ofNat 32 (b.toNat % 16))))) := by rw [← hsp]
  rw [h3, bst_x, bst_x, bst_x, bst_x, h1, h2 _ (Nat.mod_lt _ (by decide))]
theorem st1_bv (x : Int32) : (st1 x).toBitVec = bst x.toBitVec := by
  have hs : (sh1 x).toBitVec = x.toBitVec >>> 1 := by
    unfold sh1
    have e : ((nI 1).toUInt32 &&& Int32.toUInt32 31) = 1 := by decide +kernel
    rw [e]
    rfl
  have e1 : (x &&& nI 1 = nI 1) ↔ x.toBitVec.getLsbD 0 = true := by
    rw [pk_and x (m := nI 1) 1 (by decide)]
    have hm : x.toBitVec.toNat % 2 ^ 1 < 2 := Nat.mod_lt _ (by decide)
    rw [nI_eq (by omega) (by decide)]
    show _ ↔ x.toBitVec.toNat.testBit 0 = true
    rw [Nat.testBit_zero]
    simp
  unfold st1 bst
  by_cases h : x &&& nI 1 = nI 1
  · rw [if_pos h, if_pos (e1.mp h)]
    show (sh1 x).toBitVec ^^^ (-306674912 : Int32).toBitVec = _
    rw [hs]
    rfl
  · rw [if_neg h, if_neg (fun z => h (e1.mpr z)), hs]
    simp
theorem hfs_bv (x : Int32) : (hfs x).toBitVec = (x.toBitVec >>> 4) ^^^ (four (x.toBitVec.toNat % 16)).toBitVec := by
  have e : ((nI 4).toUInt32 &&& Int32.toUInt32 31) = 4 := by decide +kernel
  have hc : (x &&& nI 15).toNatClampNeg = x.toBitVec.toNat % 16 := by
    rw [pk_and x (m := nI 15) 4 (by decide)]
    have hm : x.toBitVec.toNat % 2 ^ 4 < 16 := Nat.mod_lt _ (by decide)
    exact nI_clamp (by omega)
  unfold hfs
  rw [e, hc]
  rfl
theorem st4 (x : Int32) : st1 (st1 (st1 (st1 x))) = hfs x := by
  apply Int32.toBitVec_inj.mp
  rw [st1_bv, st1_bv, st1_bv, st1_bv, bst_4, hfs_bv]
theorem stN_8 (x y : Int32) : stN (x ^^^ y) 8 = adB x y := by
  show st1 (st1 (st1 (st1 (st1 (st1 (st1 (st1 (x ^^^ y)))))))) = hfs (hfs (x ^^^ y))
  rw [st4, st4]
