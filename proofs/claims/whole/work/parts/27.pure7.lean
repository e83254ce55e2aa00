/-! the room: the class counts what is used, the reference what is not -/
theorem cn_all {P : Nat → Prop} : ∀ m, (∀ p, p < m → P p) → cnN P m = m := by
  intro m
  induction m with
  | zero => intro _; rfl
  | succ m ih =>
    intro h
    show cnN P m + cI (P m) 1 0 = m + 1
    rw [ih (fun p hp => h p (by omega)), cI_t (h m (by omega))]
theorem cn_cut {P : Nat → Prop} {a b : Nat} (hab : a ≤ b) (hP : ∀ p, a ≤ p → p ≤ b → P p) : ∀ m, cnN (fun p => P p ∧ ¬ (a ≤ p ∧ p ≤ b)) m + (if m ≤ a then 0 else if m ≤ b + 1 then m - a else b + 1 - a) = cnN P m := by
  intro m
  induction m with
  | zero => rfl
  | succ m ih =>
    show cnN (fun p => P p ∧ ¬ (a ≤ p ∧ p ≤ b)) m + cI (P m ∧ ¬ (a ≤ m ∧ m ≤ b)) 1 0 + _ = cnN P m + cI (P m) 1 0
    by_cases hin : a ≤ m ∧ m ≤ b
    · rw [cI_f (fun z => z.2 hin), cI_t (hP m hin.1 hin.2), ← ih]
      rw [if_neg (show ¬ m + 1 ≤ a by omega), if_pos (show m + 1 ≤ b + 1 by omega)]
      split <;> (try split) <;> omega
    · have e : (P m ∧ ¬ (a ≤ m ∧ m ≤ b)) = P m := propext ⟨fun z => z.1, fun z => ⟨z, hin⟩⟩
      rw [e, ← ih]
      split <;> (try split) <;> (try split) <;> (try split) <;> omega
theorem fft_en {n j : Nat} {d : Nat → BitVec 8} (h : fft n j d = 0) : enR n d (cAr n j) := by
  unfold fft at h
  by_cases h1 : num d (cHd n j) 8 = 6075990659671082565
  · rw [cI_t h1] at h
    by_cases h2 : kiR d (cHd n j)
    · rw [cI_t h2] at h
      by_cases h3 : (num d (cHd n j + 16) 4).toInt32 = smW d (cHd n j + 16) (cHd n j) 92
      · rw [cI_t h3] at h
        by_cases h4 : num d (cHd n j + 24) 8 = (nI (cOwn n j)).toInt64
        · rw [cI_t h4] at h
          by_cases h5 : laR n j d
          · rw [cI_t h5] at h
            by_cases h6 : (num d (cHd n j + 88) 4).toInt32 = smO d (cAr n j) 1024
            · rw [cI_t h6] at h
              by_cases h7 : enR n d (cAr n j)
              · exact h7
              · rw [cI_f h7] at h; exact absurd h (by decide)
            · rw [cI_f h6] at h; exact absurd h (by decide)
          · rw [cI_f h5] at h; exact absurd h (by decide)
        · rw [cI_f h4] at h; exact absurd h (by decide)
      · rw [cI_f h3] at h; exact absurd h (by decide)
    · rw [cI_f h2] at h; exact absurd h (by decide)
  · rw [cI_f h1] at h; exact absurd h (by decide)
theorem src_fft {n j : Nat} {d : Nat → BitVec 8} (h : src n d = some j) : fft n j d = 0 := by
  unfold src at h
  by_cases h0 : fft n 0 d = 0
  · rw [cI_t h0] at h
    cases h; exact h0
  · by_cases h1 : fft n 1 d = 0
    · rw [cI_f h0, cI_t h1] at h
      cases h; exact h1
    · rw [cI_f h0, cI_f h1] at h
      cases h
theorem usa_ex {n : Nat} (hn : 12 ≤ n) (hn2 : n ≤ 24) {x y : Int64} (h : usa n x y) : ∃ f g : Nat, x = lN f ∧ y = lN g ∧ 4 ≤ f ∧ f ≤ g ∧ g ≤ n - 4 := by
  obtain ⟨h1, h2, h3⟩ := h
  have i1 := Int64.le_iff_toInt_le.mp (Int64.not_lt.mp h1)
  have i3 := Int64.le_iff_toInt_le.mp (Int64.not_lt.mp h3)
  rw [show (4 : Int64).toInt = 4 from rfl] at i1
  have z : (0 : Int64).toInt = 0 := rfl
  obtain ⟨f, hf, rfl⟩ := pk_lOf (x := x) (fun q => by have := Int64.lt_iff_toInt_lt.mp q; omega)
  obtain ⟨g, hg, rfl⟩ := pk_lOf (x := y) (fun q => by have := Int64.lt_iff_toInt_lt.mp q; omega)
  rw [pk_lT hf] at i1 i3
  rw [pk_lT hg] at i3
  rw [nI_l (by omega)] at h2
  have i2 : g ≤ n - 4 := Nat.not_lt.mp (fun q => h2 ((pk_lLT (by omega) hg).mpr q))
  exact ⟨f, g, rfl, rfl, by omega, by omega, i2⟩
theorem un_eq {n b : Nat} (hn : 12 ≤ n) (hn2 : n ≤ 24) {d : Nat → BitVec 8} (he : enR n d b) : ∀ i, i ≤ 8 → unU d b (nI (n - 4 - 4 + 1)) i = nI (cnN (fun p => ¬ ∃ e, e < i ∧ ¬ frE d b e ∧ ¬ lN (4 + p) < fsE d b e ∧ ¬ laE d b e < lN (4 + p)) (n - 7)) := by
  intro i
  induction i with
  | zero =>
    intro _
    rw [cn_all (n - 7) (fun p _ => fun ⟨e, h, _⟩ => absurd h (Nat.not_lt_zero _))]
    show nI (n - 4 - 4 + 1) = _
    rw [show n - 4 - 4 + 1 = n - 7 by omega]
  | succ i ih =>
    intro hi
    show cI (frE d b i) (unU d b (nI (n - 4 - 4 + 1)) i) (unU d b (nI (n - 4 - 4 + 1)) i - (laE d b i - fsE d b i + 1).toInt32) = _
    by_cases hf : frE d b i
    · rw [cI_t hf, ih (by omega)]
      congr 1
      refine cnN_c _ (fun p _ => ?_)
      refine not_congr ⟨fun ⟨e, h1, h2⟩ => ⟨e, by omega, h2⟩, fun ⟨e, h1, h2⟩ => ⟨e, ?_, h2⟩⟩
      rcases Nat.lt_succ_iff_lt_or_eq.mp h1 with z | z
      · exact z
      · exact absurd (z ▸ hf) h2.1
    · rw [cI_f hf, ih (by omega)]
      rcases he i (by omega) with z | ⟨z1, z2, -⟩
      · exact absurd z hf
      · obtain ⟨f, g, ef, eg, h1, h2, h3⟩ := usa_ex hn hn2 z1
        rw [ef, eg] at z2 ⊢
        have e1 : (lN g - lN f + 1).toInt32 = nI (g - f + 1) := by rw [lN_sub h2, lN_1, lN_i]
        have key : ∀ p, p < n - 7 → ((¬ ∃ e, e < i + 1 ∧ ¬ frE d b e ∧ ¬ lN (4 + p) < fsE d b e ∧ ¬ laE d b e < lN (4 + p)) ↔ ((¬ ∃ e, e < i ∧ ¬ frE d b e ∧ ¬ lN (4 + p) < fsE d b e ∧ ¬ laE d b e < lN (4 + p)) ∧ ¬ (f - 4 ≤ p ∧ p ≤ g - 4))) := by
          intro p hp
          have c1 : ¬ lN (4 + p) < lN f ↔ f ≤ 4 + p := by rw [pk_lLT (by omega) (by omega)]; omega
          have c2 : ¬ lN g < lN (4 + p) ↔ 4 + p ≤ g := by rw [pk_lLT (by omega) (by omega)]; omega
          constructor
          · intro h
            refine ⟨fun ⟨e, q1, q2⟩ => h ⟨e, by omega, q2⟩, fun q => h ⟨i, by omega, hf, ?_, ?_⟩⟩
            · rw [ef]; exact c1.mpr (by omega)
            · rw [eg]; exact c2.mpr (by omega)
          · rintro ⟨q1, q2⟩ ⟨e, w1, w2, w3, w4⟩
            rcases Nat.lt_succ_iff_lt_or_eq.mp w1 with y | y
            · exact q1 ⟨e, y, w2, w3, w4⟩
            · subst y
              rw [ef] at w3
              rw [eg] at w4
              have := c1.mp w3
              have := c2.mp w4
              exact q2 (by omega)
        have hdis : ∀ p, f - 4 ≤ p → p ≤ g - 4 → ¬ ∃ e, e < i ∧ ¬ frE d b e ∧ ¬ lN (4 + p) < fsE d b e ∧ ¬ laE d b e < lN (4 + p) := by
          rintro p p1 p2 ⟨e, w1, w2, w3, w4⟩
          refine z2 ⟨e, by omega, fun q => by have := (nIj (by omega) (by omega)).mp q; omega, w2, ?_, ?_⟩
          · refine Int64.not_lt.mpr (Int64.le_trans (Int64.not_lt.mp w3) (Int64.not_lt.mp ?_))
            rw [pk_lLT (by omega) (by omega)]; omega
          · refine Int64.not_lt.mpr (Int64.le_trans (Int64.not_lt.mp ?_) (Int64.not_lt.mp w4))
            rw [pk_lLT (by omega) (by omega)]; omega
        have e2 := cn_cut (P := fun p => ¬ ∃ e, e < i ∧ ¬ frE d b e ∧ ¬ lN (4 + p) < fsE d b e ∧ ¬ laE d b e < lN (4 + p)) (a := f - 4) (b := g - 4) (by omega) hdis (n - 7)
        have e3 : (if n - 7 ≤ f - 4 then 0 else if n - 7 ≤ g - 4 + 1 then n - 7 - (f - 4) else g - 4 + 1 - (f - 4)) = g - f + 1 := by split <;> (try split) <;> omega
        rw [e3] at e2
        rw [e1, cnN_c _ key, ← e2, pk_sub (by omega), Nat.add_sub_cancel]
theorem ro_eq {n j : Nat} (hn : 12 ≤ n) (hn2 : n ≤ 24) {d : Nat → BitVec 8} (hs : src n d = some j) : roR n d = nI (cnN (fun p => ¬ tak d (cAr n j) (nI (4 + p)).toInt64 (nI (4 + p)).toInt64 (-1)) (n - 7)) := by
  rw [roR, oS_s hs, un_eq hn hn2 (fft_en (src_fft hs)) 8 (Nat.le_refl _)]
  congr 1
  refine cnN_c _ (fun p hp => not_congr (ex_c (fun e he => ?_)))
  rw [nI_l (by omega)]
  exact ⟨fun z => ⟨nI_m1n he, z⟩, fun z => z.2⟩
