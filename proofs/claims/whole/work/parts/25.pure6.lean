/-! a table written by the class and by the reference -/
theorem setN_out {d : Nat → BitVec 8} {a k p : Nat} {v : Int64} (h : ¬ (a ≤ p ∧ p < a + k)) : setN d a k v p = d p := if_neg h
theorem setN_in {d : Nat → BitVec 8} {a k p : Nat} {v : Int64} (h : a ≤ p ∧ p < a + k) : setN d a k v p = byt v (p - a) := if_pos h
theorem setN_k {d e : Nat → BitVec 8} {a k p : Nat} {v : Int64} (h : d p = e p) : setN d a k v p = setN e a k v p := by
  unfold setN
  split
  · rfl
  · exact h
theorem clr_out {d : Nat → BitVec 8} {a k p : Nat} (h : ¬ (a ≤ p ∧ p < a + k)) : clr d a k p = d p := if_neg h
theorem clr_in {d : Nat → BitVec 8} {a k p : Nat} (h : a ≤ p ∧ p < a + k) : clr d a k p = 0 := if_pos h
theorem cpA_out {t d : Nat → BitVec 8} {a k p : Nat} (h : ¬ (a ≤ p ∧ p < a + k)) : cpA t d a k p = d p := if_neg h
theorem cpA_in {t d : Nat → BitVec 8} {a k p : Nat} (h : a ≤ p ∧ p < a + k) : cpA t d a k p = t (p - a) := if_pos h
theorem cpA_k {t d e : Nat → BitVec 8} {a k p : Nat} (h : d p = e p) : cpA t d a k p = cpA t e a k p := by
  unfold cpA
  split
  · rfl
  · exact h
theorem cpy_out {d : Nat → BitVec 8} {a b k p : Nat} (h : ¬ (b ≤ p ∧ p < b + k)) : cpy d a b k p = d p := if_neg h
theorem cpy_in {d : Nat → BitVec 8} {a b k p : Nat} (h : b ≤ p ∧ p < b + k) : cpy d a b k p = d (a + (p - b)) := if_pos h
theorem crc_c {d e : Nat → BitVec 8} {x : Int32} {a : Nat} : ∀ k, (∀ i, i < k → d (a + i) = e (a + i)) → crc d x a k = crc e x a k := by
  intro k
  induction k with
  | zero => intro _; rfl
  | succ k ih =>
    intro h
    show adB (crc d x a k) _ = adB (crc e x a k) _
    rw [ih (fun i hi => h i (by omega)), h k (by omega)]
theorem smO_c {d e : Nat → BitVec 8} {a k : Nat} (h : ∀ i, i < k → d (a + i) = e (a + i)) : smO d a k = smO e a k := by
  unfold smO
  rw [crc_c k h]
theorem smW_c {d e : Nat → BitVec 8} {c a k : Nat} (h0 : a ≤ c) (h1 : c + 4 ≤ a + k) (h : ∀ i, i < k → d (a + i) = e (a + i)) : smW d c a k = smW e c a k := by
  unfold smW
  rw [crc_c (d := d) (e := e) (c - a) (fun i hi => h i (by omega)), crc_c (d := d) (e := e) (a := c + 4) (a + k - c - 4) (fun i hi => by have q := h (c + 4 - a + i) (by omega); rw [show a + (c + 4 - a + i) = c + 4 + i by omega] at q; exact q)]
theorem wSm_k {n j : Nat} {d e : Nat → BitVec 8} (hA : ∀ p, cAr n j ≤ p → p < cAr n j + 1024 → d p = e p) (hH : ∀ p, cHd n j ≤ p → p < cHd n j + 512 → d p = e p) {p : Nat} (h : d p = e p) : wSm n j d p = wSm n j e p := by
  unfold wSm
  have e1 : smO d (cAr n j) 1024 = smO e (cAr n j) 1024 := smO_c (fun i hi => hA _ (by omega) (by omega))
  have e2 : smW (setN d (cHd n j + 88) 4 (smO e (cAr n j) 1024).toInt64) (cHd n j + 16) (cHd n j) 92 = smW (setN e (cHd n j + 88) 4 (smO e (cAr n j) 1024).toInt64) (cHd n j + 16) (cHd n j) 92 := smW_c (by omega) (by omega) (fun i hi => setN_k (hH _ (by omega) (by omega)))
  rw [e1, e2]
  exact setN_k (setN_k h)
theorem wSm_out {n j : Nat} {d : Nat → BitVec 8} {p : Nat} (h : ¬ (cHd n j ≤ p ∧ p < cHd n j + 512)) : wSm n j d p = d p := by
  unfold wSm
  rw [setN_out (by omega), setN_out (by omega)]
theorem wSm_mk {n j : Nat} {d : Nat → BitVec 8} {p : Nat} (h : p < 16) : wSm n j d (cHd n j + 56 + p) = d (cHd n j + 56 + p) := by
  unfold wSm
  rw [setN_out (by omega), setN_out (by omega)]
theorem mHd_out {n j : Nat} {mk d : Nat → BitVec 8} {p : Nat} (h : ¬ (cHd n j ≤ p ∧ p < cHd n j + 512)) : mHd n j mk d p = d p := by
  unfold mHd
  rw [setN_out (by omega), setN_out (by omega), setN_out (by omega), cpA_out (by omega), setN_out (by omega), setN_out (by omega), setN_out (by omega), setN_out (by omega), setN_out (by omega), setN_out (by omega), setN_out (by omega), clr_out h]
theorem mHd_mk {n j : Nat} {mk d : Nat → BitVec 8} {p : Nat} (h : p < 16) : mHd n j mk d (cHd n j + 56 + p) = mk p := by
  unfold mHd
  rw [setN_out (by omega), setN_out (by omega), setN_out (by omega), cpA_in (by omega), show cHd n j + 56 + p - (cHd n j + 56) = p by omega]
theorem mHd_k {n j : Nat} {mk d e : Nat → BitVec 8} {p : Nat} (h : (cHd n j ≤ p ∧ p < cHd n j + 512) ∨ d p = e p) : mHd n j mk d p = mHd n j mk e p := by
  unfold mHd
  refine setN_k (setN_k (setN_k (cpA_k (setN_k (setN_k (setN_k (setN_k (setN_k (setN_k (setN_k ?_))))))))))
  by_cases h1 : cHd n j ≤ p ∧ p < cHd n j + 512
  · rw [clr_in h1, clr_in h1]
  · rw [clr_out h1, clr_out h1]
    exact h.resolve_left h1
theorem mk_two {mk d : Nat → BitVec 8} {a : Nat} {x y : Int64} (h1 : ∀ p, p < 8 → byt x p = mk p) (h2 : ∀ p, p < 8 → byt y p = mk (8 + p)) : cpA mk d a 16 = setN (setN d a 8 x) (a + 8) 8 y := by
  funext p
  by_cases z1 : a ≤ p ∧ p < a + 8
  · rw [cpA_in (by omega), setN_out (by omega), setN_in z1, h1 _ (by omega)]
  · by_cases z2 : a + 8 ≤ p ∧ p < a + 8 + 8
    · rw [cpA_in (by omega), setN_in z2, h2 _ (by omega), show 8 + (p - (a + 8)) = p - a by omega]
    · rw [cpA_out (by omega), setN_out z2, setN_out z1]
theorem wHd_mk {n j : Nat} {mk d : Nat → BitVec 8} {x y : Int64} (h1 : ∀ p, p < 8 → byt x p = mk p) (h2 : ∀ p, p < 8 → byt y p = mk (8 + p)) : wHd n j x y d = mHd n j mk d := by
  unfold wHd mHd
  rw [mk_two h1 h2]
theorem byt_num8 {e : Nat → BitVec 8} {a q : Nat} (hq : q < 8) : byt (num e (a + 8) 8) q = e (a + (8 + q)) := by
  rw [byt_num e (by decide) hq, Nat.add_assoc]
theorem cHd_0 (n : Nat) : cHd n 0 = 512 := by simp [cHd, cOwn]
theorem cHd_1 (n : Nat) : cHd n 1 = (n - 1) * 512 := by simp [cHd, cOwn]
theorem cAr_0 (n : Nat) : cAr n 0 = 1024 := by simp [cAr, cArr]
theorem cAr_1 (n : Nat) : cAr n 1 = (n - 3) * 512 := by simp [cAr, cArr]
/-- the class's table at copy j, the reference's own: the same disk -/
theorem wT_eq {n j : Nat} (hn : 12 ≤ n) (hj : j < 2) {T M d d1 : Nat → BitVec 8} (hT : ∀ p, p < 1024 → T p = d1 (cAr n j + p)) (hM : ∀ p, p < 16 → M p = d1 (cHd n j + 56 + p))
    (hO : ∀ p, (p < 512 ∨ 2048 ≤ p) → (p < (n - 3) * 512 ∨ n * 512 ≤ p) → d1 p = d p) : wTm n T M d = wTb n j d1 := by
  have a0 := cAr_0 n
  have a1 := cAr_1 n
  have b0 := cHd_0 n
  have b1 := cHd_1 n
  have hx : ∀ (e : Nat → BitVec 8), (∀ p, p < 16 → M p = e (cHd n j + 56 + p)) → ∀ i c, wHd n i (num e (cHd n j + 56) 8) (num e (cHd n j + 56 + 8) 8) c = mHd n i M c := by
    intro e he i c
    refine wHd_mk (fun p hp => ?_) (fun p hp => ?_)
    · rw [byt_num e (by decide) hp, he p (by omega)]
    · rw [byt_num8 hp, he (8 + p) (by omega)]
  -- the first copy
  have k0 : ∀ p, ¬ (512 ≤ p ∧ p < 1024) → (p < (n - 3) * 512 ∨ n * 512 ≤ p) → cpy d1 (cAr n j) (cAr n 0) 1024 p = cpA T d (cAr n 0) 1024 p := by
    intro p h1 h2
    by_cases z : cAr n 0 ≤ p ∧ p < cAr n 0 + 1024
    · rw [cpy_in z, cpA_in z, hT _ (by omega)]
    · rw [cpy_out z, cpA_out z, hO p (by omega) h2]
  have e1 : ∀ p, (p < (n - 3) * 512 ∨ n * 512 ≤ p) → wrt n 0 j d1 p = mWc n 0 T M d p := by
    intro p h2
    unfold wrt mWc
    rw [hx d1 hM]
    have key : ∀ p, (p < (n - 3) * 512 ∨ n * 512 ≤ p) → mHd n 0 M (cpy d1 (cAr n j) (cAr n 0) 1024) p = mHd n 0 M (cpA T d (cAr n 0) 1024) p := by
      intro p h
      refine mHd_k ?_
      by_cases z : cHd n 0 ≤ p ∧ p < cHd n 0 + 512
      · exact Or.inl z
      · exact Or.inr (k0 p (by omega) h)
    exact wSm_k (fun p h3 h4 => key p (by omega)) (fun p h3 h4 => key p (by omega)) (key p h2)
  have f2 : ∀ p, p < 1024 → wrt n 0 j d1 (cAr n j + p) = T p := by
    intro p hp
    unfold wrt
    rw [hx d1 hM]
    rcases (show j = 0 ∨ j = 1 by omega) with rfl | rfl
    · rw [wSm_out (by omega), mHd_out (by omega), cpy_in (by omega), hT p hp, show cAr n 0 + p - cAr n 0 = p by omega]
    · rw [wSm_out (by omega), mHd_out (by omega), cpy_out (by omega), hT p hp]
  have f3 : ∀ p, p < 16 → M p = wrt n 0 j d1 (cHd n j + 56 + p) := by
    intro p hp
    unfold wrt
    rw [hx d1 hM]
    rcases (show j = 0 ∨ j = 1 by omega) with rfl | rfl
    · rw [wSm_mk hp, mHd_mk hp]
    · rw [wSm_out (by omega), mHd_out (by omega), cpy_out (by omega), hM p hp]
  -- the second copy
  have k1 : ∀ p, ¬ ((n - 1) * 512 ≤ p ∧ p < n * 512) → cpy (wrt n 0 j d1) (cAr n j) (cAr n 1) 1024 p = cpA T (mWc n 0 T M d) (cAr n 1) 1024 p := by
    intro p h1
    by_cases z : cAr n 1 ≤ p ∧ p < cAr n 1 + 1024
    · rw [cpy_in z, cpA_in z, f2 _ (by omega)]
    · rw [cpy_out z, cpA_out z, e1 p (by omega)]
  have e2 : mHd n 1 M (cpy (wrt n 0 j d1) (cAr n j) (cAr n 1) 1024) = mHd n 1 M (cpA T (mWc n 0 T M d) (cAr n 1) 1024) := by
    funext p
    refine mHd_k ?_
    by_cases z : cHd n 1 ≤ p ∧ p < cHd n 1 + 512
    · exact Or.inl z
    · exact Or.inr (k1 p (by omega))
  unfold wTm wTb
  show wSm n 1 (mHd n 1 M (cpA T (mWc n 0 T M d) (cAr n 1) 1024)) = wSm n 1 (wHd n 1 (num (wrt n 0 j d1) (cHd n j + 56) 8) (num (wrt n 0 j d1) (cHd n j + 56 + 8) 8) (cpy (wrt n 0 j d1) (cAr n j) (cAr n 1) 1024))
  rw [hx _ f3, e2]
/-! shifts -/
theorem sh_set {T d : Nat → BitVec 8} {b q q' k p : Nat} {v : Int64} (hq : q' = b + q) (h : T p = d (b + p)) : setN T q k v p = setN d q' k v (b + p) := by
  subst hq
  by_cases z : q ≤ p ∧ p < q + k
  · rw [setN_in z, setN_in (by omega), show b + p - (b + q) = p - q by omega]
  · rw [setN_out z, setN_out (by omega), h]
theorem sh_clr {T d : Nat → BitVec 8} {b q q' k p : Nat} (hq : q' = b + q) (h : T p = d (b + p)) : clr T q k p = clr d q' k (b + p) := by
  subst hq
  by_cases z : q ≤ p ∧ p < q + k
  · rw [clr_in z, clr_in (by omega)]
  · rw [clr_out z, clr_out (by omega), h]
theorem sh_guid {T d : Nat → BitVec 8} {b q q' p : Nat} {x : Int64} (hq : q' = b + q) (h : T p = d (b + p)) : guid T q x p = guid d q' x (b + p) := sh_set (by omega) (sh_set hq h)
theorem sh_mkE {T d : Nat → BitVec 8} {b q q' p : Nat} {x y : Int32} {t k a : Int64} (hq : q' = b + q) (h : T p = d (b + p)) : mkE T q x y t k a p = mkE d q' x y t k a (b + p) :=
  sh_set (by omega) (sh_set (by omega) (sh_set (by omega) (sh_guid (by omega) (sh_guid hq (sh_clr hq h)))))
theorem guid_out {d : Nat → BitVec 8} {a p : Nat} {x : Int64} (h : ¬ (a ≤ p ∧ p < a + 16)) : guid d a x p = d p := by
  unfold guid
  rw [setN_out (by omega), setN_out (by omega)]
theorem mkE_out {d : Nat → BitVec 8} {q p : Nat} {x y : Int32} {t k a : Int64} (h : ¬ (q ≤ p ∧ p < q + 128)) : mkE d q x y t k a p = d p := by
  unfold mkE
  rw [setN_out (by omega), setN_out (by omega), setN_out (by omega), guid_out (by omega), guid_out (by omega), clr_out (by omega)]
theorem guid_lo {d e : Nat → BitVec 8} {a b p : Nat} {x : Int64} (h : p < 16) : guid d a x (a + p) = guid e b x (b + p) := by
  unfold guid
  by_cases z : p < 8
  · rw [setN_out (by omega), setN_in (by omega), setN_out (by omega), setN_in (by omega)]
    congr 1; omega
  · rw [setN_in (by omega), setN_in (by omega)]
    congr 1; omega
/-! the guard stands apart -/
theorem wrt_k {n i j : Nat} (hn : 12 ≤ n) (hi : i < 2) (hj : j < 2) {d e : Nat → BitVec 8} (h : ∀ p, 512 ≤ p → d p = e p) : ∀ p, 512 ≤ p → wrt n i j d p = wrt n i j e p := by
  have a0 := cAr_0 n
  have a1 := cAr_1 n
  have b0 := cHd_0 n
  have b1 := cHd_1 n
  have hAj : 1024 ≤ cAr n j := by rcases (show j = 0 ∨ j = 1 by omega) with rfl | rfl <;> omega
  have hHj : 512 ≤ cHd n j := by rcases (show j = 0 ∨ j = 1 by omega) with rfl | rfl <;> omega
  have hAi : 1024 ≤ cAr n i := by rcases (show i = 0 ∨ i = 1 by omega) with rfl | rfl <;> omega
  have hHi : 512 ≤ cHd n i := by rcases (show i = 0 ∨ i = 1 by omega) with rfl | rfl <;> omega
  have e1 : num d (cHd n j + 56) 8 = num e (cHd n j + 56) 8 := num_c 8 _ _ (fun q _ => h _ (by omega))
  have e2 : num d (cHd n j + 56 + 8) 8 = num e (cHd n j + 56 + 8) 8 := num_c 8 _ _ (fun q _ => h _ (by omega))
  have e3 : ∀ p, 512 ≤ p → cpy d (cAr n j) (cAr n i) 1024 p = cpy e (cAr n j) (cAr n i) 1024 p := by
    intro p hp
    by_cases z : cAr n i ≤ p ∧ p < cAr n i + 1024
    · rw [cpy_in z, cpy_in z, h _ (by omega)]
    · rw [cpy_out z, cpy_out z, h p hp]
  have e4 : ∀ p, 512 ≤ p → wHd n i (num e (cHd n j + 56) 8) (num e (cHd n j + 56 + 8) 8) (cpy d (cAr n j) (cAr n i) 1024) p = wHd n i (num e (cHd n j + 56) 8) (num e (cHd n j + 56 + 8) 8) (cpy e (cAr n j) (cAr n i) 1024) p := by
    intro p hp
    have q1 := wHd_mk (n := n) (j := i) (d := cpy d (cAr n j) (cAr n i) 1024) (mk := fun q => e (cHd n j + 56 + q)) (x := num e (cHd n j + 56) 8) (y := num e (cHd n j + 56 + 8) 8) (fun q hq => byt_num e (by decide) hq) (fun q hq => byt_num8 hq)
    have q2 := wHd_mk (n := n) (j := i) (d := cpy e (cAr n j) (cAr n i) 1024) (mk := fun q => e (cHd n j + 56 + q)) (x := num e (cHd n j + 56) 8) (y := num e (cHd n j + 56 + 8) 8) (fun q hq => byt_num e (by decide) hq) (fun q hq => byt_num8 hq)
    rw [q1, q2]
    exact mHd_k (Or.inr (e3 p hp))
  intro p hp
  unfold wrt
  rw [e1, e2]
  exact wSm_k (fun p h3 h4 => e4 p (by omega)) (fun p h3 h4 => e4 p (by omega)) (e4 p hp)
theorem wrt_lo {n i j : Nat} (hn : 12 ≤ n) (hi : i < 2) {d : Nat → BitVec 8} {p : Nat} (hp : p < 512) : wrt n i j d p = d p := by
  have a0 := cAr_0 n
  have a1 := cAr_1 n
  have b0 := cHd_0 n
  have b1 := cHd_1 n
  have hAi : 1024 ≤ cAr n i := by rcases (show i = 0 ∨ i = 1 by omega) with rfl | rfl <;> omega
  have hHi : 512 ≤ cHd n i := by rcases (show i = 0 ∨ i = 1 by omega) with rfl | rfl <;> omega
  unfold wrt
  rw [wSm_out (by omega), wHd_mk (mk := fun q => d (cHd n j + 56 + q)) (fun q hq => byt_num d (by decide) hq) (fun q hq => byt_num8 hq), mHd_out (by omega), cpy_out (by omega)]
theorem wTb_lo {n j : Nat} (hn : 12 ≤ n) {d : Nat → BitVec 8} {p : Nat} (hp : p < 512) : wTb n j d p = d p := by
  unfold wTb
  rw [wrt_lo hn (by decide) hp, wrt_lo hn (by decide) hp]
theorem wGd_hi {n : Nat} {d : Nat → BitVec 8} {p : Nat} (hp : 512 ≤ p) : wGd n d p = d p := by
  unfold wGd
  rw [setN_out (by omega), setN_out (by omega), setN_out (by omega), setN_out (by omega), setN_out (by omega), clr_out (by omega)]
theorem wGd_k {n : Nat} {d e : Nat → BitVec 8} {p : Nat} (hp : p < 512) : wGd n d p = wGd n e p := by
  unfold wGd
  refine setN_k (setN_k (setN_k (setN_k (setN_k ?_))))
  rw [clr_in (by omega), clr_in (by omega)]
theorem wG_wT {n j : Nat} (hn : 12 ≤ n) (hj : j < 2) (d : Nat → BitVec 8) : wTb n j (wGd n d) = wGd n (wTb n j d) := by
  funext p
  by_cases hp : p < 512
  · rw [wTb_lo hn hp]
    exact wGd_k hp
  · rw [wGd_hi (by omega)]
    unfold wTb
    exact wrt_k hn (by decide) hj (wrt_k hn (by decide) hj (fun p h => wGd_hi h)) p (by omega)
theorem gd_wT {n j : Nat} (hn : 12 ≤ n) (d : Nat → BitVec 8) : gdR n (wTb n j d) ↔ gdR n d := by
  unfold gdR
  rw [wTb_lo hn (by decide), wTb_lo hn (by decide), wTb_lo hn (by decide), num_c 4 454 454 (fun i hi => wTb_lo (d := d) hn (by omega)), num_c 4 458 458 (fun i hi => wTb_lo (d := d) hn (by omega)), isZ_c (b := 462) (fun i hi => wTb_lo (d := d) hn (by omega))]
/-- a table taken and written again -/
theorem wT_take {n j : Nat} (hn : 12 ≤ n) (hj : j < 2) (d t mk : Nat → BitVec 8) : wTm n (cpT d t (cAr n j) 1024) (cpT d mk (cHd n j + 56) 16) d = wTb n j d :=
  wT_eq hn hj (fun p hp => cpT_at hp) (fun p hp => cpT_at hp) (fun _ _ _ => rfl)
theorem wT_takeG {n j : Nat} (hn : 12 ≤ n) (hj : j < 2) (d t mk : Nat → BitVec 8) : wTm n (cpT d t (cAr n j) 1024) (cpT d mk (cHd n j + 56) 16) (wGd n d) = wGd n (wTb n j d) := by
  rw [← wG_wT hn hj]
  have b0 := cHd_0 n
  have b1 := cHd_1 n
  have a0 := cAr_0 n
  have a1 := cAr_1 n
  have hAj : 1024 ≤ cAr n j := by rcases (show j = 0 ∨ j = 1 by omega) with rfl | rfl <;> omega
  have hHj : 512 ≤ cHd n j := by rcases (show j = 0 ∨ j = 1 by omega) with rfl | rfl <;> omega
  exact wT_eq hn hj (fun p hp => by rw [cpT_at hp, wGd_hi (by omega)]) (fun p hp => by rw [cpT_at hp, wGd_hi (by omega)]) (fun _ _ _ => rfl)
/-- an entry changed in the table taken -/
theorem wT_chg {n j : Nat} (hn : 12 ≤ n) (hj : j < 2) {d mk T d1 : Nat → BitVec 8} (hT : ∀ p, p < 1024 → T p = d1 (cAr n j + p)) (hO : ∀ p, ¬ (cAr n j ≤ p ∧ p < cAr n j + 1024) → d1 p = d p) : wTm n T (cpT d mk (cHd n j + 56) 16) d = wTb n j d1 := by
  have b0 := cHd_0 n
  have b1 := cHd_1 n
  have a0 := cAr_0 n
  have a1 := cAr_1 n
  refine wT_eq hn hj hT (fun p hp => ?_) (fun p h1 h2 => hO p ?_)
  · rw [cpT_at hp, hO _ (by rcases (show j = 0 ∨ j = 1 by omega) with rfl | rfl <;> omega)]
  · rcases (show j = 0 ∨ j = 1 by omega) with rfl | rfl <;> omega
theorem wT_for {n : Nat} (hn : 12 ≤ n) (d t mk : Nat → BitVec 8) (x : Int64) : wTm n (clr t 0 1024) (guid mk 0 x) (wGd n d) = foR n d x := by
  have b0 := cHd_0 n
  have a0 := cAr_0 n
  refine wT_eq hn (by decide) (fun p hp => ?_) (fun p hp => ?_) (fun p h1 h2 => ?_)
  · rw [clr_in (by omega), guid_out (by omega), clr_in (by omega)]
  · have q := guid_lo (d := mk) (e := clr (wGd n d) (cAr n 0) 1024) (a := 0) (b := cHd n 0 + 56) (x := x) hp
    rw [Nat.zero_add] at q
    exact q
  · rw [guid_out (by omega), clr_out (by omega)]
