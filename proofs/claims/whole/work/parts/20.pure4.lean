/-! the reference's own words -/
noncomputable def crB (d : Nat → BitVec 8) (z x : Int32) (a : Nat) : Nat → Int32
  | 0 => x
  | i + 1 => adB (crB d z x a i) (cI (¬ z < 0 ∧ ¬ nI (a + i) < z ∧ ¬ z + nI 4 ≤ nI (a + i)) (nI 0) (zx (d (a + i))))
theorem crB_1 (d : Nat → BitVec 8) (x : Int32) (a i : Nat) : crB d (-1) x a i = crc d x a i := by
  induction i with
  | zero => rfl
  | succ i ih =>
    show adB (crB d (-1) x a i) _ = adB (crc d x a i) _
    rw [ih, cI_f (fun z => z.1 (by decide))]
theorem crc_add (d : Nat → BitVec 8) (x : Int32) (a i j : Nat) : crc d x a (i + j) = crc d (crc d x a i) (a + i) j := by
  induction j with
  | zero => rfl
  | succ j ih =>
    show adB (crc d x a (i + j)) (zx (d (a + (i + j)))) = adB (crc d (crc d x a i) (a + i) j) (zx (d (a + i + j)))
    rw [ih, Nat.add_assoc]
theorem crB_lo {d : Nat → BitVec 8} {x : Int32} {a c : Nat} (hc : c < 2 ^ 30) : ∀ i, a + i ≤ c → crB d (nI c) x a i = crc d x a i := by
  intro i
  induction i with
  | zero => intro _; rfl
  | succ i ih =>
    intro h
    show adB (crB d (nI c) x a i) _ = adB (crc d x a i) _
    rw [ih (by omega), cI_f (fun z => z.2.1 (nI_lt (by omega) (by omega)))]
theorem crB_mid {d : Nat → BitVec 8} {x : Int32} {a c i : Nat} (hc : c < 2 ^ 30) (h1 : c ≤ a + i) (h2 : a + i < c + 4) : crB d (nI c) x a (i + 1) = adB (crB d (nI c) x a i) (nI 0) := by
  show adB (crB d (nI c) x a i) _ = _
  rw [cI_t ⟨nI_pos (by omega), nI_nlt h1 (by omega), by rw [nI_add]; exact nI_ge h2 (by omega)⟩]
theorem crB_hi {d : Nat → BitVec 8} {x : Int32} {a c i : Nat} (hc : c < 2 ^ 30) (h0 : a + i = c + 4) : ∀ j, a + i + j < 2 ^ 30 → crB d (nI c) x a (i + j) = crc d (crB d (nI c) x a i) (c + 4) j := by
  intro j
  induction j with
  | zero => intro _; rfl
  | succ j ih =>
    intro h
    show adB (crB d (nI c) x a (i + j)) (cI (¬ nI c < 0 ∧ ¬ nI (a + (i + j)) < nI c ∧ ¬ nI c + nI 4 ≤ nI (a + (i + j))) (nI 0) (zx (d (a + (i + j))))) = adB (crc d (crB d (nI c) x a i) (c + 4) j) (zx (d (c + 4 + j)))
    rw [ih (by omega), cI_f (fun z => z.2.2 (by rw [nI_add]; exact nI_le (by omega) (by omega))), show a + (i + j) = c + 4 + j by omega]
theorem crB_w {d : Nat → BitVec 8} {a b c : Nat} (h1 : a ≤ c) (h2 : c + 4 ≤ a + b) (h3 : a + b < 2 ^ 30) : -1 - crB d (nI c) (-1) a b = smW d c a b := by
  unfold smW
  have e1 := crB_lo (d := d) (x := -1) (a := a) (c := c) (by omega) (c - a) (by omega)
  have e2 := crB_mid (d := d) (x := -1) (a := a) (c := c) (i := c - a) (by omega) (by omega) (by omega)
  have e3 := crB_mid (d := d) (x := -1) (a := a) (c := c) (i := c - a + 1) (by omega) (by omega) (by omega)
  have e4 := crB_mid (d := d) (x := -1) (a := a) (c := c) (i := c - a + 1 + 1) (by omega) (by omega) (by omega)
  have e5 := crB_mid (d := d) (x := -1) (a := a) (c := c) (i := c - a + 1 + 1 + 1) (by omega) (by omega) (by omega)
  have e6 := crB_hi (d := d) (x := -1) (a := a) (c := c) (i := c - a + 1 + 1 + 1 + 1) (by omega) (by omega) (a + b - c - 4) (by omega)
  rw [show c - a + 1 + 1 + 1 + 1 + (a + b - c - 4) = b by omega] at e6
  rw [e6, e5, e4, e3, e2, e1]
theorem exS {P : Nat → Prop} {i : Nat} : (∃ t, t < i + 1 ∧ P t) ↔ (∃ t, t < i ∧ P t) ∨ P i := by
  constructor
  · rintro ⟨t, h1, h2⟩
    rcases Nat.lt_succ_iff_lt_or_eq.mp h1 with z | z
    · exact Or.inl ⟨t, z, h2⟩
    · exact Or.inr (z ▸ h2)
  · rintro (⟨t, h1, h2⟩ | h)
    · exact ⟨t, by omega, h2⟩
    · exact ⟨i, by omega, h⟩
def bpQ (d : Nat → BitVec 8) (b i j : Nat) : Prop := ¬ frE d b j ∧ ((¬ laE d b j < fsE d b i ∧ ¬ laE d b i < fsE d b j) ∨ alk d d (b + i * 128 + 16) (b + j * 128 + 16) 16)
def bdQ (n : Nat) (d : Nat → BitVec 8) (b i : Nat) : Prop := ¬ frE d b i ∧ (¬ usa n (fsE d b i) (laE d b i) ∨ ∃ j, j < i ∧ bpQ d b i j)
theorem nIj {i j : Nat} (hi : i < 8) (hj : j < 8) : nI i = nI j ↔ i = j := nI_eq (by omega) (by omega)
/-- the reference's test of the entries, and the class's -/
theorem bad_iff (n : Nat) (d : Nat → BitVec 8) (b : Nat) : (∃ i, i < 8 ∧ bdQ n d b i) ↔ ¬ enR n d b := by
  constructor
  · rintro ⟨i, hi, h1, h2⟩ he
    rcases he i hi with z | ⟨z1, z2, z3⟩
    · exact h1 z
    · rcases h2 with y | ⟨j, hj, y1, y2⟩
      · exact y z1
      · rcases y2 with ⟨y2, y3⟩ | y2
        · exact z2 ⟨j, by omega, fun q => by have := (nIj (by omega) hi).mp q; omega, y1, y3, y2⟩
        · exact z3 ⟨j, hj, y1, fun k hk => (y2 k hk).symm⟩
  · intro hn
    refine Classical.byContradiction (fun hb => hn (fun i hi => ?_))
    by_cases hf : frE d b i
    · exact Or.inl hf
    · have hno : ∀ a, a < 8 → ¬ frE d b a → usa n (fsE d b a) (laE d b a) ∧ ∀ j, j < a → ¬ bpQ d b a j := by
        intro a ha hfa
        refine ⟨Classical.byContradiction (fun z => hb ⟨a, ha, hfa, Or.inl z⟩), fun j hj z => hb ⟨a, ha, hfa, Or.inr ⟨j, hj, z⟩⟩⟩
      refine Or.inr ⟨(hno i hi hf).1, ?_, ?_⟩
      · rintro ⟨j, hj, y1, y2, y3, y4⟩
        have hne : j ≠ i := fun q => y1 ((nIj hj hi).mpr q)
        rcases Nat.lt_or_ge j i with z | z
        · exact (hno i hi hf).2 j z ⟨y2, Or.inl ⟨y4, y3⟩⟩
        · exact (hno j hj y2).2 i (by omega) ⟨hf, Or.inl ⟨y3, y4⟩⟩
      · rintro ⟨j, hj, y1, y2⟩
        exact (hno i hi hf).2 j hj ⟨y1, Or.inr (fun k hk => (y2 k hk).symm)⟩
/-! tables that were taken -/
def cpT (d t : Nat → BitVec 8) (a i : Nat) : Nat → BitVec 8 := fun p => if p < i then d (a + p) else t p
theorem cpT_0 (d t : Nat → BitVec 8) (a : Nat) : cpT d t a 0 = t := by
  funext p
  unfold cpT
  rw [if_neg (by omega)]
theorem cpT_s (d t : Nat → BitVec 8) (a i : Nat) : va_up (cpT d t a i) i (d (a + i)) = cpT d t a (i + 1) := by
  funext p
  unfold va_up cpT
  by_cases h : p = i
  · subst h
    rw [if_pos rfl, if_pos (by omega)]
  · rw [if_neg h]
    by_cases h2 : p < i
    · rw [if_pos h2, if_pos (by omega)]
    · rw [if_neg h2, if_neg (by omega)]
theorem cpT_at {d t : Nat → BitVec 8} {a k p : Nat} (h : p < k) : cpT d t a k p = d (a + p) := if_pos h
theorem num_c {d e : Nat → BitVec 8} : ∀ (k a b : Nat), (∀ i, i < k → d (a + i) = e (b + i)) → num d a k = num e b k := by
  intro k
  induction k with
  | zero => intro a b _; rfl
  | succ k ih =>
    intro a b h
    show (num d (a + 1) k <<< _) ||| _ = (num e (b + 1) k <<< _) ||| _
    rw [ih (a + 1) (b + 1) (fun i hi => by have q := h (i + 1) (by omega); rw [show a + 1 + i = a + (i + 1) by omega, show b + 1 + i = b + (i + 1) by omega]; exact q), show d a = e b from h 0 (by omega)]
theorem isZ_c {d e : Nat → BitVec 8} {a b k : Nat} (h : ∀ i, i < k → d (a + i) = e (b + i)) : isZ d a k ↔ isZ e b k := ⟨fun z i hi => (h i hi).symm.trans (z i hi), fun z i hi => (h i hi).trans (z i hi)⟩
section TT
variable {d t : Nat → BitVec 8} {a : Nat}
theorem T_num {p k : Nat} (h : p + k ≤ 1024) : num (cpT d t a 1024) p k = num d (a + p) k := num_c k p (a + p) (fun i hi => by rw [cpT_at (by omega), Nat.add_assoc])
theorem T_fr {i : Nat} (hi : i < 8) : frE (cpT d t a 1024) 0 i ↔ frE d a i := isZ_c (fun k hk => by rw [cpT_at (by omega)]; congr 1; omega)
theorem T_fs {i : Nat} (hi : i < 8) : fsE (cpT d t a 1024) 0 i = fsE d a i := by
  show num _ _ _ = num _ _ _
  rw [T_num (by omega)]
  congr 1; omega
theorem T_la {i : Nat} (hi : i < 8) : laE (cpT d t a 1024) 0 i = laE d a i := by
  show num _ _ _ = num _ _ _
  rw [T_num (by omega)]
  congr 1; omega
theorem ex_c {P Q : Nat → Prop} (h : ∀ i, i < 8 → (P i ↔ Q i)) : (∃ i, i < 8 ∧ P i) ↔ (∃ i, i < 8 ∧ Q i) := ⟨fun ⟨i, h1, h2⟩ => ⟨i, h1, (h i h1).mp h2⟩, fun ⟨i, h1, h2⟩ => ⟨i, h1, (h i h1).mpr h2⟩⟩
theorem T_tak {x y : Int64} {z : Int32} : tak (cpT d t a 1024) 0 x y z ↔ tak d a x y z := ex_c (fun i hi => by unfold tkQ; rw [T_fr hi, T_fs hi, T_la hi])
theorem T_mk {x y : Int64} : mkU (cpT d t a 1024) 0 x y ↔ mkU d a x y := ex_c (fun i hi => by
  unfold mkQ
  rw [T_fr hi, T_num (by omega), T_num (by omega), show a + (0 + i * 128 + 16) = a + i * 128 + 16 by omega, show a + (0 + i * 128 + 24) = a + i * 128 + 24 by omega])
theorem loR_c {P Q : Nat → Prop} : ∀ q i, (∀ j, i ≤ j → j < i + q → (P j ↔ Q j)) → loR P q i = loR Q q i := by
  intro q
  induction q with
  | zero => intro i _; rfl
  | succ q ih =>
    intro i h
    show cI (P i) (nI i) (loR P q (i + 1)) = cI (Q i) (nI i) (loR Q q (i + 1))
    rw [ih (i + 1) (fun j h1 h2 => h j (by omega) (by omega)), propext (h i (by omega) (by omega))]
theorem T_lo : loR (frE (cpT d t a 1024) 0) 8 0 = loR (frE d a) 8 0 := loR_c 8 0 (fun j _ h => T_fr (by omega))
theorem cnN_c {P Q : Nat → Prop} : ∀ k, (∀ j, j < k → (P j ↔ Q j)) → cnN P k = cnN Q k := by
  intro k
  induction k with
  | zero => intro _; rfl
  | succ k ih =>
    intro h
    show cnN P k + cI (P k) 1 0 = cnN Q k + cI (Q k) 1 0
    rw [ih (fun j hj => h j (by omega)), propext (h k (by omega))]
theorem T_cn : cnN (fun i => ¬ frE (cpT d t a 1024) 0 i) 8 = cnN (fun i => ¬ frE d a i) 8 := cnN_c 8 (fun j h => by rw [T_fr h])
end TT
theorem src_ex {n : Nat} {d : Nat → BitVec 8} (c : ¬ oS (src n d) (-1) nI = -1) : ∃ j, j < 2 ∧ src n d = some j := by
  unfold src at c ⊢
  by_cases h0 : fft n 0 d = 0
  · exact ⟨0, by decide, cI_t h0⟩
  · by_cases h1 : fft n 1 d = 0
    · exact ⟨1, by decide, (cI_f h0).trans (cI_t h1)⟩
    · exact absurd (oS_n ((cI_f h0).trans (cI_f h1))) c
theorem src_no {n : Nat} {d : Nat → BitVec 8} (c : oS (src n d) (-1) nI = -1) : src n d = none := by
  unfold src at c ⊢
  by_cases h0 : fft n 0 d = 0
  · rw [oS_s (j := 0) (cI_t h0)] at c
    exact absurd c (by decide)
  · by_cases h1 : fft n 1 d = 0
    · rw [oS_s (j := 1) ((cI_f h0).trans (cI_t h1))] at c
      exact absurd c (by decide)
    · exact (cI_f h0).trans (cI_f h1)
theorem cOwn_1 {n j : Nat} (hj : j < 2) : cOwn n (1 - j) = cOth n j := by
  rcases (show j = 0 ∨ j = 1 by omega) with rfl | rfl <;> rfl
theorem le_1 {x : Int32} (h1 : ¬ x < 0) (h2 : x ≤ nI 1) : ∃ j, j < 2 ∧ x = nI j := by
  obtain ⟨j, h3, h4⟩ := nI_of2 (M := nI 1) (n := 1) (by decide) h1 h2
  exact ⟨j, by omega, h4⟩
theorem nle_1 {x : Int32} (h : inR x 2) : x ≤ nI 1 := by
  obtain ⟨a, ha, rfl⟩ := inR_ex (by decide) h
  exact nI_le (by omega) (by decide)
/-! numbers and their bytes -/
theorem num_bv (d : Nat → BitVec 8) : ∀ (k a : Nat), k ≤ 8 → ∀ i, i < 64 → (num d a k).toBitVec.getLsbD i = (decide (i < 8 * k) && (d (a + i / 8)).getLsbD (i % 8)) := by
  intro k
  induction k with
  | zero => intro a _ i hi; simp [num]
  | succ k ih =>
    intro a hk i hi
    have e8 : ((nI 8).toInt64 &&& 63).toBitVec.smod 64 = 8#64 := by decide +kernel
    show (((num d (a + 1) k).toBitVec <<< (((nI 8).toInt64 &&& 63).toBitVec.smod 64)) ||| ((zx (d a)).toBitVec.signExtend 64)).getLsbD i = _
    rw [e8, zx_bv, BitVec.getLsbD_or, BitVec.getLsbD_signExtend, BitVec.shiftLeft_eq', BitVec.getLsbD_shiftLeft, BitVec.getLsbD_setWidth]
    have hm : (BitVec.setWidth 32 (d a)).msb = false := by
      rw [BitVec.msb_eq_getLsbD_last, BitVec.getLsbD_setWidth]
      simp
    simp only [show (8#64).toNat = 8 from rfl, hm]
    by_cases h8 : i < 8
    · have : i / 8 = 0 := by omega
      have h9 : i % 8 = i := by omega
      simp [h8, hi, this, h9, show i < 32 by omega, show i < 8 * (k + 1) by omega]
    · rw [ih (a + 1) (by omega) (i - 8) (by omega)]
      have e1 : a + 1 + (i - 8) / 8 = a + i / 8 := by omega
      have e2 : (i - 8) % 8 = i % 8 := by omega
      have e3 : (d a).getLsbD i = false := BitVec.getLsbD_of_ge _ _ (by omega)
      rw [e1, e2, e3]
      by_cases h3 : i < 8 * (k + 1)
      · simp [h8, hi, h3, show i - 8 < 8 * k by omega]
      · simp [h8, hi, h3, show ¬ i - 8 < 8 * k by omega]
theorem byt_num (d : Nat → BitVec 8) {k a i : Nat} (hk : k ≤ 8) (hi : i < k) : byt (num d a k) i = d (a + i) := by
  rw [byt_bv _ (by omega)]
  apply BitVec.eq_of_getLsbD_eq
  intro j hj
  rw [BitVec.getLsbD_setWidth, BitVec.getLsbD_ushiftRight, num_bv d k a hk _ (by omega)]
  simp [hj, show 8 * i + j < 8 * k by omega, show (8 * i + j) / 8 = i by omega, show (8 * i + j) % 8 = j by omega]
theorem num_byt {d : Nat → BitVec 8} {a : Nat} {v : Int64} (h : ∀ i, i < 8 → d (a + i) = byt v i) : num d a 8 = v := by
  apply Int64.toBitVec_inj.mp
  apply BitVec.eq_of_getLsbD_eq
  intro i hi
  rw [num_bv d 8 a (by decide) i hi, h (i / 8) (by omega), byt_bv v (by omega), BitVec.getLsbD_setWidth, BitVec.getLsbD_ushiftRight]
  simp [show i < 8 * 8 by omega, show i % 8 < 8 by omega, show 8 * (i / 8) + i % 8 = i by omega]
theorem sig_iff {d : Nat → BitVec 8} {a : Nat} {v : Int64} : num d a 8 = v ↔ ∀ i, i < 8 → d (a + i) = byt v i :=
  ⟨fun h i hi => by rw [← h, byt_num d (by decide) hi], num_byt⟩
