section TD
variable {p : Program} {l : Launch} {e : Env} {R : Room} {s : State} {m : MethodId} {args : Array Value} {below : List Frame} {meth : Method} {c : Code} {H : Heap} {locs : List Loc} {cells slots : Nat} {Q : State → Prop}
variable {cc : ByteArray} {pc : Nat} {ls : Array Slot} {rest : List Value}
theorem lv_imulC (hx : p.tables.exec = Jvm.exec) (hb : c.code = cc) {a b : Nat} (hdg : decode cc pc = .ok (.imul, 1)) (k : W p l e R s m args below meth c H locs cells slots Q (F0 m (pc + 1) ls (.int (nI (b * a)) :: rest))) : W p l e R s m args below meth c H locs cells slots Q (F0 m pc ls (.int (nI b) :: .int (nI a) :: rest)) :=
  lv_imulN hx hb hdg (lv_eqi (congrArg nI (Nat.mul_comm a b)) k)
theorem lv_z0 {a : Nat} (k : W p l e R s m args below meth c H locs cells slots Q (F0 m pc ls (.int (nI (0 + a)) :: rest))) : W p l e R s m args below meth c H locs cells slots Q (F0 m pc ls (.int (nI a) :: rest)) := lv_eqi (congrArg nI (Nat.zero_add a).symm) k
end TD
/-- the reference's three arrays -/
def mU (x y z : Nat → BitVec 8) : Nat → Nat → BitVec 8 := fun i => if i = 1 then x else if i = 2 then y else if i = 3 then z else fun _ => 0
theorem mU_1 (x y z w : Nat → BitVec 8) : va_up (mU x y z) 1 w = mU w y z := by
  funext i
  by_cases h : i = 1 <;> simp [va_up, mU, h]
theorem mU_2 (x y z w : Nat → BitVec 8) : va_up (mU x y z) 2 w = mU x w z := by
  funext i
  by_cases h1 : i = 1
  · simp [va_up, mU, h1]
  · by_cases h : i = 2 <;> simp [va_up, mU, h, h1]
theorem mU_3 (x y z w : Nat → BitVec 8) : va_up (mU x y z) 3 w = mU x y w := by
  funext i
  by_cases h1 : i = 1
  · simp [va_up, mU, h1]
  · by_cases h2 : i = 2
    · simp [va_up, mU, h2]
    · by_cases h : i = 3 <;> simp [va_up, mU, h, h1, h2]
theorem isZ_s {d : Nat → BitVec 8} {a i : Nat} : isZ d a (i + 1) ↔ isZ d a i ∧ d (a + i) = 0 := ⟨fun h => ⟨fun j hj => h j (by omega), h i (by omega)⟩, fun h => lt_a h.1 h.2⟩
theorem alk_s {d e : Nat → BitVec 8} {a b i : Nat} : alk d e a b (i + 1) ↔ alk d e a b i ∧ d (a + i) = e (b + i) := ⟨fun h => ⟨fun j hj => h j (by omega), h i (by omega)⟩, fun h => lt_a h.1 h.2⟩
theorem bI_x {x : Int32} {q : Prop} (h : x = bI q) (c : x = 0) : ¬ q := bI_0.mp (h ▸ c)
theorem bI_y {x : Int32} {q : Prop} (h : x = bI q) (c : ¬ x = 0) : q := bI_1 (h ▸ c)
/-! the bytes of a long -/
theorem byt_bv (v : Int64) {i : Nat} (hi : i < 8) : byt v i = (v.toBitVec >>> (8 * i)).setWidth 8 := by
  have h : ∀ i, i < 8 → ((nI (8 * i)).toInt64.toUInt64 &&& Int64.toUInt64 63) = UInt64.ofNat (8 * i) := by decide +kernel
  unfold byt lo8
  rw [h i hi]
  apply BitVec.eq_of_getLsbD_eq
  intro j hj
  show ((((v.toBitVec >>> ((UInt64.ofNat (8 * i)).toBitVec % 64)).signExtend 32)).setWidth 8).getLsbD j = _
  have e : ((UInt64.ofNat (8 * i)).toBitVec % 64) = BitVec.ofNat 64 (8 * i) := by
    apply BitVec.eq_of_toNat_eq
    simp
    omega
  rw [e]
  simp only [BitVec.getLsbD_setWidth, BitVec.getLsbD_signExtend, BitVec.ushiftRight_eq', BitVec.getLsbD_ushiftRight, BitVec.toNat_ofNat]
  have h2 : 8 * i % 2 ^ 64 = 8 * i := by omega
  rw [h2]
  simp [hj, show j < 32 by omega, show j < 64 by omega]
theorem zx_bv (x : BitVec 8) : (zx x).toBitVec = x.setWidth 32 := rfl
theorem put_byt (v : Int64) {i : Nat} (hi : i < 8) : ((v >>> ((nI (8 * i)).toInt64 &&& 63)) &&& 255).toInt32 = zx (byt v i) := by
  have h : ∀ i, i < 8 → ((nI (8 * i)).toInt64 &&& 63).toBitVec.smod 64 = BitVec.ofNat 64 (8 * i) := by decide +kernel
  rw [byt_bv v hi]
  apply Int32.toBitVec_inj.mp
  rw [zx_bv]
  show (((v.toBitVec.sshiftRight' (((nI (8 * i)).toInt64 &&& 63).toBitVec.smod 64)) &&& (255 : Int64).toBitVec).signExtend 32) = _
  rw [h i hi]
  apply BitVec.eq_of_getLsbD_eq
  intro j hj
  have e255 : ∀ j, j < 32 → (255 : Int64).toBitVec.getLsbD j = decide (j < 8) := by decide +kernel
  simp only [BitVec.getLsbD_signExtend, BitVec.getLsbD_and, BitVec.getLsbD_setWidth, BitVec.getLsbD_ushiftRight, BitVec.sshiftRight_eq', BitVec.getLsbD_sshiftRight, BitVec.toNat_ofNat]
  have h2 : 8 * i % 2 ^ 64 = 8 * i := by omega
  rw [h2, e255 j hj]
  by_cases h8 : j < 8
  · simp [h8, hj, show j < 64 by omega, show 8 * i + j < 64 by omega]
  · simp [h8, hj]
    intro h9
    omega
theorem byt_0 (z : Int32) : byt z.toInt64 0 = lo8 z := by
  rw [byt_bv _ (by decide)]
  apply BitVec.eq_of_getLsbD_eq
  intro j hj
  show (((z.toBitVec.signExtend 64) >>> (8 * 0)).setWidth 8).getLsbD j = (z.toBitVec.setWidth 8).getLsbD j
  simp only [BitVec.getLsbD_setWidth, BitVec.getLsbD_ushiftRight, BitVec.getLsbD_signExtend, Nat.mul_zero, Nat.zero_add]
  rw [if_pos (show j < 32 by omega)]
  simp [show j < 64 by omega]
theorem and_255 (z : Int32) : z &&& nI 255 = zx (lo8 z) := by
  apply Int32.toBitVec_inj.mp
  rw [zx_bv]
  show (z.toBitVec &&& (nI 255).toBitVec) = (z.toBitVec.setWidth 8).setWidth 32
  apply BitVec.eq_of_getLsbD_eq
  intro j hj
  have e255 : ∀ j, j < 32 → (nI 255).toBitVec.getLsbD j = decide (j < 8) := by decide +kernel
  rw [BitVec.getLsbD_and, e255 j hj]
  simp only [BitVec.getLsbD_setWidth]
  by_cases h8 : j < 8
  · simp [h8, hj]
  · simp [h8]
