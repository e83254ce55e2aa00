theorem lw_in {i L : Nat} (hi : i < 2 ^ 30) (hL : L < 2 ^ 30) (c : ¬ nI L - nI 9 < nI i) : i + 9 ≤ L := by
  have h := Int32.le_iff_toInt_le.mp (Int32.not_lt.mp c)
  rw [pk_sub_toInt hL (by decide), nI_toInt (by omega)] at h
  omega
theorem lw_out {i L : Nat} (hi : i < 2 ^ 30) (hL : L < 2 ^ 30) (c : nI L - nI 9 < nI i) : L < i + 9 := by
  have h := Int32.lt_iff_toInt_lt.mp c
  rw [pk_sub_toInt hL (by decide), nI_toInt (by omega)] at h
  omega
set_option maxHeartbeats 4000000 in
set_option maxRecDepth 100000 in
theorem law_loop {p : Program} {l : Launch} {e : Env} {s : State} {m : MethodId} {below : List Frame} {meth : Method} {c : Code} {D : va_G} {h k : Nat → Nat} {cA : ClassId} {cI : Nat → ClassId} {n tb b L : Nat} {xs : Nat → Int32} (hL : L ≤ 4609) (C0 : lw_At p s m meth c b L xs) (hn : 12 ≤ n) (hn2 : n ≤ 24) (hK : va_K D classes [(cA, .byte), (cI 1, .int), (cI 2, .int), (cI 3, .int)] s) (hXs : cX tb (fun q : Nat => s.heap.size ≤ q) s s.heap) : ∀ (q i : Nat) (d t mk : Nat → BitVec 8) (H : Heap) (locs : List Loc) (ls : Array Slot), i ≤ L + 9 → L + 10 ≤ i + q → va_P D classes (cW h cA n d ++ mW k cI n (mU d t mk)) H → va_D (fun q : Nat => s.heap.size ≤ q) (cW h cA n d ++ mW k cI n (mU d t mk)) → va_S (fun q : Nat => s.heap.size ≤ q) s.heap H locs → lv_has ls 4 [(3, .int (nI (i))), (2, .ref (k 0)), (1, .ref (h 0)), (0, .ref (b))] → W p l e room_1 s m #[Value.ref b] below meth c H locs 9 25641 (lw_Z below #[Value.ref b] s) (F0 m 28 ls []) := by
  have C1 := C0
  obtain ⟨hx, hb, hr, hml, hown, hts, hX, hbl, hlocks, hgv⟩ := C0
  have hown : s.vm.findClass R_L = some m.cls := hown
  have hA : ∀ q : Nat, s.heap.size ≤ q → (fun q : Nat => s.heap.size ≤ q) q := fun _ h => h
  have hbA : ¬ (fun q : Nat => s.heap.size ≤ q) b := Nat.not_le.mpr hbl
  intro q
  induction q with
  | zero => intro i d t mk H locs ls h1 h2; exact absurd h2 (by omega)
  | succ q ih =>
    intro i d t mk H locs ls hi hq hP hD hS hl
    refine lv_iload_n hx hb d_L_law_28 rfl (lv_at hl 0 rfl) ?_
    refine lv_aload_n hx hb d_L_law_29 rfl (lv_at hl 3 rfl) ?_
    refine va_slen hx hb hX hbl hbA hS d_L_law_30 ?_
    refine lv_bipush (v := nI 9) hx hb d_L_law_31 rfl ?_
    refine lv_isub hx hb d_L_law_33 ?_
    refine lv_icmp_gt (tgt := 765) hx hb d_L_law_34 (by decide) (fun c_34 => ?_) (fun c_34 => ?_)
    · refine lv_iconst (v := 1) hx hb d_L_law_765 (by decide) ?_
      refine va_forget (fun q hq => hS.2.2 q hq) ?_
      refine W.widen (k := 600000) (n := 7302250) (Nat.le_of_ble_eq_true rfl) (Nat.le_of_ble_eq_true rfl) ?_
      exact lw_ret hx hb hr hlocks d_L_law_766
    · have hi9 : i + 9 ≤ L := lw_in (by omega) (by omega) c_34
      refine lv_aload_n hx hb d_L_law_37 rfl (lv_at hl 3 rfl) ?_
      refine lv_iload_n hx hb d_L_law_38 rfl (lv_at hl 0 rfl) ?_
      refine l_sld hx hb hX hbl hbA hS (a := i) (by omega) hL d_L_law_39 ?_
      refine lv_bipush (v := nI 31) hx hb d_L_law_40 rfl ?_
      refine lv_iand hx hb d_L_law_42 ?_
      obtain ⟨g, hg, eg⟩ := pk_andE (xs i) (m := nI 31) 5 (by decide)
      refine lv_eqi eg ?_
      have kk : ∀ (d t mk : Nat → BitVec 8) (H : Heap) (locs : List Loc), va_P D classes (cW h cA n d ++ mW k cI n (mU d t mk)) H → va_D (fun q : Nat => s.heap.size ≤ q) (cW h cA n d ++ mW k cI n (mU d t mk)) → va_S (fun q : Nat => s.heap.size ≤ q) s.heap H locs → W p l e room_1 s m #[Value.ref b] below meth c H locs 9 25641 (lw_Z below #[Value.ref b] s) (F0 m 759 ls []) := by
        intro d t mk H locs hP hD hS
        refine lv_iinc (v := nI (i + 9)) (lv' := [(3, .int (nI (i + 9))), (2, .ref (k 0)), (1, .ref (h 0)), (0, .ref b)]) hx hb d_L_law_759 hl (k := 0) rfl (nI_add i 9) (by decide) rfl (fun ls hl => ?_)
        refine lv_goto (tgt := 28) hx hb d_L_law_762 (by decide) ?_
        exact ih (i + 9) d t mk H locs ls (by omega) (by omega) hP hD hS hl
      by_cases h18 : g < 18
      · rcases (show g = 0 ∨ g = 1 ∨ g = 2 ∨ g = 3 ∨ g = 4 ∨ g = 5 ∨ g = 6 ∨ g = 7 ∨ g = 8 ∨ g = 9 ∨ g = 10 ∨ g = 11 ∨ g = 12 ∨ g = 13 ∨ g = 14 ∨ g = 15 ∨ g = 16 ∨ g = 17 by omega) with rfl | rfl | rfl | rfl | rfl | rfl | rfl | rfl | rfl | rfl | rfl | rfl | rfl | rfl | rfl | rfl | rfl | rfl
        · refine lv_tableIn (tgt := 128) hx hb d_L_law_43 (by decide) (by decide) (off := 85) (by decide) (by decide) ?_
          exact lc_0 hL C1 hn hn2 hK hXs hi9 hP hD hS hl kk
        · refine lv_tableIn (tgt := 141) hx hb d_L_law_43 (by decide) (by decide) (off := 98) (by decide) (by decide) ?_
          exact lc_1 hL C1 hn hn2 hK hXs hi9 hP hD hS hl kk
        · refine lv_tableIn (tgt := 174) hx hb d_L_law_43 (by decide) (by decide) (off := 131) (by decide) (by decide) ?_
          exact lc_2 hL C1 hn hn2 hK hXs hi9 hP hD hS hl kk
        · refine lv_tableIn (tgt := 217) hx hb d_L_law_43 (by decide) (by decide) (off := 174) (by decide) (by decide) ?_
          exact lc_3 hL C1 hn hn2 hK hXs hi9 hP hD hS hl kk
        · refine lv_tableIn (tgt := 268) hx hb d_L_law_43 (by decide) (by decide) (off := 225) (by decide) (by decide) ?_
          exact lc_4 hL C1 hn hn2 hK hXs hi9 hP hD hS hl kk
        · refine lv_tableIn (tgt := 291) hx hb d_L_law_43 (by decide) (by decide) (off := 248) (by decide) (by decide) ?_
          exact lc_5 hL C1 hn hn2 hK hXs hi9 hP hD hS hl kk
        · refine lv_tableIn (tgt := 304) hx hb d_L_law_43 (by decide) (by decide) (off := 261) (by decide) (by decide) ?_
          exact lc_6 hL C1 hn hn2 hK hXs hi9 hP hD hS hl kk
        · refine lv_tableIn (tgt := 327) hx hb d_L_law_43 (by decide) (by decide) (off := 284) (by decide) (by decide) ?_
          exact lc_7 hL C1 hn hn2 hK hXs hi9 hP hD hS hl kk
        · refine lv_tableIn (tgt := 340) hx hb d_L_law_43 (by decide) (by decide) (off := 297) (by decide) (by decide) ?_
          exact lc_8 hL C1 hn hn2 hK hXs hi9 hP hD hS hl kk
        · refine lv_tableIn (tgt := 499) hx hb d_L_law_43 (by decide) (by decide) (off := 456) (by decide) (by decide) ?_
          exact lc_9 hL C1 hn hn2 hK hXs hi9 hP hD hS hl kk
        · refine lv_tableIn (tgt := 522) hx hb d_L_law_43 (by decide) (by decide) (off := 479) (by decide) (by decide) ?_
          exact lc_10 hL C1 hn hn2 hK hXs hi9 hP hD hS hl kk
        · refine lv_tableIn (tgt := 567) hx hb d_L_law_43 (by decide) (by decide) (off := 524) (by decide) (by decide) ?_
          exact lc_11 hL C1 hn hn2 hK hXs hi9 hP hD hS hl kk
        · refine lv_tableIn (tgt := 610) hx hb d_L_law_43 (by decide) (by decide) (off := 567) (by decide) (by decide) ?_
          exact lc_12 hL C1 hn hn2 hK hXs hi9 hP hD hS hl kk
        · refine lv_tableIn (tgt := 623) hx hb d_L_law_43 (by decide) (by decide) (off := 580) (by decide) (by decide) ?_
          exact lc_13 hL C1 hn hn2 hK hXs hi9 hP hD hS hl kk
        · refine lv_tableIn (tgt := 636) hx hb d_L_law_43 (by decide) (by decide) (off := 593) (by decide) (by decide) ?_
          exact lc_14 hL C1 hn hn2 hK hXs hi9 hP hD hS hl kk
        · refine lv_tableIn (tgt := 670) hx hb d_L_law_43 (by decide) (by decide) (off := 627) (by decide) (by decide) ?_
          exact lc_15 hL C1 hn hn2 hK hXs hi9 hP hD hS hl kk
        · refine lv_tableIn (tgt := 703) hx hb d_L_law_43 (by decide) (by decide) (off := 660) (by decide) (by decide) ?_
          exact lc_16 hL C1 hn hn2 hK hXs hi9 hP hD hS hl kk
        · refine lv_tableIn (tgt := 716) hx hb d_L_law_43 (by decide) (by decide) (off := 673) (by decide) (by decide) ?_
          exact lc_17 hL C1 hn hn2 hK hXs hi9 hP hD hS hl kk
      · refine lv_tableOut (tgt := 759) hx hb d_L_law_43 (Or.inr (by rw [nI_toInt (by omega)]; omega)) (by decide) ?_
        exact kk d t mk H locs hP hD hS
