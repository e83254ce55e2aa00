/-! bytes -/
def sx (x : BitVec 8) : Int32 := Int32.ofBitVec (x.signExtend 32)
def zx (x : BitVec 8) : Int32 := Int32.ofBitVec (x.setWidth 32)
def lo8 (v : Int32) : BitVec 8 := v.toBitVec.setWidth 8
theorem by_all {P : BitVec 8 → Prop} (h : ∀ n, n < 256 → P (BitVec.ofNat 8 n)) (x : BitVec 8) : P x := by
  have h1 := h x.toNat x.isLt
  rwa [BitVec.ofNat_toNat, BitVec.setWidth_eq] at h1
theorem sx_and (x : BitVec 8) : sx x &&& nI 255 = zx x := by_all (P := fun x => sx x &&& nI 255 = zx x) (by decide +kernel) x
theorem zx_nI (x : BitVec 8) : zx x = nI x.toNat := by_all (P := fun x => zx x = nI x.toNat) (by decide +kernel) x
theorem zx_inj {x y : BitVec 8} : zx x = zx y ↔ x = y := by
  refine ⟨fun h => ?_, fun h => by rw [h]⟩
  rw [zx_nI, zx_nI] at h
  have h1 := (nI_eq (Nat.lt_trans x.isLt (by decide)) (Nat.lt_trans y.isLt (by decide))).mp h
  exact BitVec.eq_of_toNat_eq h1
theorem sx_inj {x y : BitVec 8} : sx x = sx y ↔ x = y := by
  refine ⟨fun h => ?_, fun h => by rw [h]⟩
  refine zx_inj.mp ?_
  rw [← sx_and, ← sx_and, h]
theorem sx_0 (x : BitVec 8) : sx x = nI 0 ↔ x = 0 := sx_inj (y := 0)
theorem zx_0 (x : BitVec 8) : zx x = nI 0 ↔ x = 0 := zx_inj (y := 0)
theorem nar_sx (v : Int32) : vp_nar .byte v = sx (lo8 v) := by
  show (Int32.ofBitVec ((v.toBitVec.signExtend 8).signExtend 32)) = Int32.ofBitVec ((v.toBitVec.setWidth 8).signExtend 32)
  rw [show v.toBitVec.signExtend 8 = v.toBitVec.setWidth 8 from BitVec.signExtend_eq_setWidth_of_le _ (by decide)]
theorem sx_fit (x : BitVec 8) : fits .byte (.int (sx x)) = true := by_all (P := fun x => fits .byte (.int (sx x)) = true) (by decide +kernel) x
theorem lo_sx (x : BitVec 8) : lo8 (sx x) = x := by_all (P := fun x => lo8 (sx x) = x) (by decide +kernel) x
theorem lo_zx (x : BitVec 8) : lo8 (zx x) = x := by_all (P := fun x => lo8 (zx x) = x) (by decide +kernel) x
theorem upd_sx (d : Nat → BitVec 8) (a : Nat) (x : BitVec 8) : upd (fun q => sx (d q)) a (sx x) = fun q => sx (va_up d a x q) := by
  funext q
  by_cases h : q = a <;> simp [upd, va_up, h]
theorem upd_zx (d : Nat → BitVec 8) (a : Nat) (x : BitVec 8) : upd (fun q => zx (d q)) a (zx x) = fun q => zx (va_up d a x q) := by
  funext q
  by_cases h : q = a <;> simp [upd, va_up, h]
/-! the class's world -/
def cOwn (n j : Nat) : Nat := if j = 0 then 1 else n - 1
def cOth (n j : Nat) : Nat := if j = 0 then n - 1 else 1
def cArr (n j : Nat) : Nat := if j = 0 then 2 else n - 3
def cHd (n j : Nat) : Nat := cOwn n j * 512
def cAr (n j : Nat) : Nat := cArr n j * 512
theorem cHd_le {n j : Nat} (hn : 12 ≤ n) (hj : j < 2) : cHd n j + 512 ≤ n * 512 := by
  unfold cHd cOwn
  split <;> omega
theorem cAr_le {n j : Nat} (hn : 12 ≤ n) (hj : j < 2) : cAr n j + 1024 ≤ n * 512 := by
  unfold cAr cArr
  split <;> omega
def cFs (hb n j : Nat) : List Value := [.int (nI j), .ref hb, .int (nI (cOwn n j)), .int (nI (cOth n j)), .int (nI (cArr n j)), .int (nI (n - 4)), .int (nI (cHd n j)), .int (nI (cAr n j))]
def cW (h : Nat → Nat) (cA : ClassId) (n : Nat) (d : Nat → BitVec 8) : va_W := [(h 0, .inr (0, [.int (nI n), .ref (h 1), .ref (h 2), .ref (h 3)])), (h 1, .inr (1, [.ref (h 4)])), (h 2, .inr (2, cFs (h 1) n 0)), (h 3, .inr (2, cFs (h 1) n 1)), (h 4, .inl (cA, n * 512, .inl (fun q => sx (d q))))]
theorem cW_C {h : Nat → Nat} {cA : ClassId} {n j : Nat} {d : Nat → BitVec 8} (hj : j < 2) : (cW h cA n d)[2 + j]? = some (h (2 + j), .inr (2, cFs (h 1) n j)) := by
  match j, hj with
  | 0, _ => rfl
  | 1, _ => rfl
theorem cW_w {h : Nat → Nat} {cA : ClassId} {n : Nat} : gW (cW h cA n) := fun A u v hD => by
  have h1 := hD.set (p := 4) (e := .inl (cA, n * 512, .inl (fun q => sx (v q)))) rfl
  exact h1
def four (j : Nat) : Int32 := [0, 498536548, 997073096, 651767980, 1994146192, 1802195444, 1303535960, 1342533948, -306674912, -267414716, -690576408, -882789492, -1687895376, -2032938284, -1609899400, -1111625188].getD j 0
def cX (tb : Nat) (A : Nat → Prop) (U : State) (H : Heap) : Prop := va_Z "TwinTables$Bytes" "FOUR_STEPS" "[I" (.ref tb) A U H ∧ va_T .int tb 16 (fun j => .int (four j)) A U H ∧ va_Nw (.fieldLinkNest R_T 84 "TwinTables$Copy" "index" "I" "TwinTables") U ∧ va_Nw (.methodLinkNest R_C 132 y_T_guidTail "TwinTables") U
theorem cX_x {tb : Nat} : gX (cX tb) := fun A s U H h hk hW => by
  obtain ⟨h1, h2, h3, h4⟩ := h
  exact ⟨va_Z.moved hW.alike (h1.kept hk), va_T.moved hW.alike (h2.kept hk), va_Nw.warmF hW h3, va_Nw.warmM hW h4⟩
abbrev cB (D : va_G) (h : Nat → Nat) (cA : ClassId) (n tb : Nat) (A : Nat → Prop) : (Nat → BitVec 8) → State → Prop := gB D [(cA, .byte)] (cW h cA n) (cX tb) A
/-! the reference's world: 1 the disk, 2 the table, 3 the mark -/
def mSz (i : Nat) : Nat := if i = 1 then 12288 else if i = 2 then 1024 else 16
def mW (k : Nat → Nat) (cI : Nat → ClassId) (n : Nat) (u : Nat → Nat → BitVec 8) : va_W := [(k 0, .inr (3, [.int (nI n), .ref (k 1), .ref (k 2), .ref (k 3)])), (k 1, .inl (cI 1, 12288, .inl (fun q => zx (u 1 q)))), (k 2, .inl (cI 2, 1024, .inl (fun q => zx (u 2 q)))), (k 3, .inl (cI 3, 16, .inl (fun q => zx (u 3 q))))]
theorem mW_A {k : Nat → Nat} {cI : Nat → ClassId} {n i : Nat} {u : Nat → Nat → BitVec 8} (h1 : 1 ≤ i) (h3 : i ≤ 3) : (mW k cI n u)[i]? = some (k i, .inl (cI i, mSz i, .inl (fun q => zx (u i q)))) := by
  match i, h1, h3 with
  | 1, _, _ => rfl
  | 2, _, _ => rfl
  | 3, _, _ => rfl
theorem mW_T {cI : Nat → ClassId} {i : Nat} (h1 : 1 ≤ i) (h3 : i ≤ 3) : ([(cI 1, .int), (cI 2, .int), (cI 3, .int)] : List (ClassId × FieldType))[i - 1]? = some (cI i, .int) := by
  match i, h1, h3 with
  | 1, _, _ => rfl
  | 2, _, _ => rfl
  | 3, _, _ => rfl
theorem mW_set {k : Nat → Nat} {cI : Nat → ClassId} {n i : Nat} {u : Nat → Nat → BitVec 8} {g : Nat → BitVec 8} (h1 : 1 ≤ i) (h3 : i ≤ 3) : (mW k cI n u).set i (k i, .inl (cI i, mSz i, .inl (fun q => zx (g q)))) = mW k cI n (va_up u i g) := by
  match i, h1, h3 with
  | 1, _, _ => rfl
  | 2, _, _ => rfl
  | 3, _, _ => rfl
theorem mW_w {k : Nat → Nat} {cI : Nat → ClassId} {n : Nat} : gW (mW k cI n) := fun A u v hD => by
  have h1 := ((hD.set (p := 1) (e := .inl (cI 1, 12288, .inl (fun q => zx (v 1 q)))) rfl).set (p := 2) (e := .inl (cI 2, 1024, .inl (fun q => zx (v 2 q)))) rfl).set (p := 3) (e := .inl (cI 3, 16, .inl (fun q => zx (v 3 q)))) rfl
  exact h1
def mX (_ : Nat → Prop) (_ : State) (_ : Heap) : Prop := True
theorem mX_x : gX mX := fun _ _ _ _ _ _ _ => trivial
abbrev mB (D : va_G) (k : Nat → Nat) (cI : Nat → ClassId) (n : Nat) (A : Nat → Prop) : (Nat → Nat → BitVec 8) → State → Prop := gB D [(cI 1, .int), (cI 2, .int), (cI 3, .int)] (mW k cI n) mX A
theorem mSz_lt (i : Nat) : mSz i < 2 ^ 31 := by
  unfold mSz
  split
  · decide
  · split <;> decide
section TA
variable {p : Program} {l : Launch} {e : Env} {R : Room} {s : State} {m : MethodId} {args : Array Value} {below : List Frame} {meth : Method} {c : Code} {H : Heap} {locs : List Loc} {cells slots : Nat} {Q : State → Prop}
variable {cc : ByteArray} {pc : Nat} {ls : Array Slot} {rest : List Value}
variable {D : va_G} {h k : Nat → Nat} {cA : ClassId} {cI : Nat → ClassId} {n tb i : Nat} {A : Nat → Prop} {d0 d : Nat → BitVec 8} {u0 u : Nat → Nat → BitVec 8}
theorem c_bald (hx : p.tables.exec = Jvm.exec) (hb : c.code = cc) (hB : cB D h cA n tb A d0 s) (hP : va_P D classes (cW h cA n d) H) {a : Nat} (ha : a < n * 512) (hn : n ≤ 24) (hdg : decode cc pc = .ok (.baload, 1)) (kk : W p l e R s m args below meth c H locs cells slots Q (F0 m (pc + 1) ls (.int (sx (d a)) :: rest))) : W p l e R s m args below meth c H locs cells slots Q (F0 m pc ls (.int (nI a) :: .ref (h 4) :: rest)) := by
  refine va_bald hx hb hB.2.1 hP 4 0 rfl rfl (vp_in_nI ha (by omega)) hdg ?_
  rw [nI_clamp (by omega)]
  exact kk
theorem c_bast (hx : p.tables.exec = Jvm.exec) (hb : c.code = cc) (hB : cB D h cA n tb A d0 s) (hP : va_P D classes (cW h cA n d) H) (hS : va_S A s.heap H locs) {a : Nat} {x : Int32} {y : BitVec 8} (hy : lo8 x = y) (ha : a < n * 512) (hn : n ≤ 24) (hdg : decode cc pc = .ok (.bastore, 1)) (kk : ∀ (H1 : Heap) (locs1 : List Loc), va_P D classes (cW h cA n (va_up d a y)) H1 → va_S A s.heap H1 locs1 → W p l e R s m args below meth c H1 locs1 cells slots Q (F0 m (pc + 1) ls rest)) : W p l e R s m args below meth c H locs cells slots Q (F0 m pc ls (.int x :: .int (nI a) :: .ref (h 4) :: rest)) := by
  subst hy
  refine va_bast hx hb hB.2.1 hP (cW_w A d0 d hB.2.2.1) hS 4 0 rfl rfl (vp_in_nI ha (by omega)) hdg (fun H1 locs1 hP1 _ hS1 => kk H1 locs1 ?_ hS1)
  rw [nI_clamp (by omega), nar_sx, upd_sx] at hP1
  exact hP1
theorem m_iald (hx : p.tables.exec = Jvm.exec) (hb : c.code = cc) (hB : mB D k cI n A u0 s) (hP : va_P D classes (mW k cI n u) H) (h1 : 1 ≤ i) (h3 : i ≤ 3) {a : Nat} (ha : a < mSz i) (hdg : decode cc pc = .ok (.iaload, 1)) (kk : W p l e R s m args below meth c H locs cells slots Q (F0 m (pc + 1) ls (.int (zx (u i a)) :: rest))) : W p l e R s m args below meth c H locs cells slots Q (F0 m pc ls (.int (nI a) :: .ref (k i) :: rest)) := by
  have hz := mSz_lt i
  refine va_iald hx hb hB.2.1 hP i (i - 1) (mW_A h1 h3) (mW_T h1 h3) (vp_in_nI ha hz) hdg ?_
  rw [nI_clamp (by omega)]
  exact kk
theorem m_iast (hx : p.tables.exec = Jvm.exec) (hb : c.code = cc) (hB : mB D k cI n A u0 s) (hP : va_P D classes (mW k cI n u) H) (hS : va_S A s.heap H locs) (h1 : 1 ≤ i) (h3 : i ≤ 3) {a : Nat} {x : Int32} {y : BitVec 8} (hy : x = zx y) (ha : a < mSz i) (hdg : decode cc pc = .ok (.iastore, 1)) (kk : ∀ (H1 : Heap) (locs1 : List Loc), va_P D classes (mW k cI n (va_up u i (va_up (u i) a y))) H1 → va_S A s.heap H1 locs1 → W p l e R s m args below meth c H1 locs1 cells slots Q (F0 m (pc + 1) ls rest)) : W p l e R s m args below meth c H locs cells slots Q (F0 m pc ls (.int x :: .int (nI a) :: .ref (k i) :: rest)) := by
  subst hy
  have hz := mSz_lt i
  refine va_iast hx hb hB.2.1 hP (mW_w A u0 u hB.2.2.1) hS i (i - 1) (mW_A h1 h3) (mW_T h1 h3) (vp_in_nI ha hz) hdg (fun H1 locs1 hP1 _ hS1 => kk H1 locs1 ?_ hS1)
  rw [nI_clamp (by omega), upd_zx, mW_set h1 h3] at hP1
  exact hP1
end TA
