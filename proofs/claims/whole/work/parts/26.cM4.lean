theorem rm_no {n : Nat} {d : Nat → BitVec 8} {x : Int32} (h : src n d = none ∨ ∃ j, src n d = some j ∧ ¬ ptQ n d j x) : rmR n d x = (0, d) := by
  rcases h with h | ⟨j, h, h2⟩
  · rw [rmR, oS_n h]
  · rw [rmR, oS_s h, cI_f h2]
theorem rn_no {n : Nat} {d : Nat → BitVec 8} {x y z : Int32} (h : src n d = none ∨ ∃ j, src n d = some j ∧ ¬ ptQ n d j x) : rnR n d x y z = (0, d) := by
  rcases h with h | ⟨j, h, h2⟩
  · rw [rnR, oS_n h]
  · rw [rnR, oS_s h, cI_f (q := ptQ n d j x ∧ inR y 36) (fun w => h2 w.1)]
theorem mo_no {n : Nat} {d : Nat → BitVec 8} {x y z : Int32} (h : src n d = none ∨ ∃ j, src n d = some j ∧ ¬ ptQ n d j x) : moR n d x y z = (0, d) := by
  rcases h with h | ⟨j, h, h2⟩
  · rw [moR, oS_n h]
  · rw [moR, oS_s h, cI_f (q := ptQ n d j x ∧ usa n y.toInt64 z.toInt64 ∧ ¬ tak d (cAr n j) y.toInt64 z.toInt64 x) (fun w => h2 w.1)]
theorem nI_m1n {i : Nat} (h : i < 8) : ¬ nI i = -1 := by
  have q : ∀ i, i < 8 → ¬ nI i = -1 := by decide +kernel
  exact q i h
abbrev w_M_format : List Cond := .code y_M_format b_M_format 4 none :: ALL
abbrev rm_M_format : Room := { frames := 5, cells := 0, slots := 0, locals := 114 }
theorem hd_M_format : y_M_format.cls = R_M ∧ y_M_format.cls ≠ "java/lang/invoke/MethodHandle" ∧ y_M_format.cls ≠ "java/lang/invoke/VarHandle" ∧ (parseMethodDescriptor y_M_format.desc).map (fun d => d.parameters.length) = some 1 := by decide +kernel
set_option maxHeartbeats 4000000 in
set_option maxRecDepth 100000 in
theorem c_M_format (l : Launch) (D : va_G) (k : Nat → Nat) (cI : Nat → ClassId) (n : Nat) (A : Nat → Prop) (hn : 12 ≤ n) (hn2 : n ≤ 24) (d t mk : Nat → BitVec 8) (x : Int64) : Met l y_M_format w_M_format rm_M_format (va_Pc [.ref (k 0), .long (x)] (mB D k cI n A (mU d t mk))) (va_Qv (fun v => mO (foR n d x) v) (mB D k cI n A) A) 0 0 A := by
  refine g_ofW (cc := b_M_format) (maxL := 4) (ret := none) (by decide) rfl (Nat.le_of_ble_eq_true rfl) ?_
  intro p e s m below meth c ls hx hb hml hr hlk hown hts hnm hB hl
  have hown : s.vm.findClass R_M = some m.cls := hown
  have hP := hB.1
  have hK := hB.2.1
  obtain ⟨H, hH⟩ : ∃ H, H = s.heap := ⟨_, rfl⟩
  have hS : va_S A s.heap H [] := by rw [hH]; exact va_S.rf
  rw [← hH] at hP ⊢
  have hl : lv_has ls 4 [(0, .ref (k 0)), (1, .long (x))] := hl
  have z1 : mSz 1 = 12288 := rfl
  have z2 : mSz 2 = 1024 := rfl
  have z3 : mSz 3 = 16 := rfl
  refine lv_aload_n hx hb d_M_format_0 rfl (lv_at hl 0 rfl) ?_
  refine g_callVv (As := []) (rest := []) ⟨hx, hb, hml, hown, hts⟩ (C := R_M) (index := 117) (c_M_writeGuard l D k cI n A hn hn2 (d) (t) (mk) ) (cwV 0 hts (gd_V m_521 m_523 m_22 m_33 m_524) rfl rfl rfl hd_M_writeGuard ⟨Nat.le_of_ble_eq_true rfl, Nat.le_of_ble_eq_true rfl⟩) mW_w mX_x hB hP hS (ci := 3) rfl (0) rfl rfl hl.1 rfl (Nat.le_of_ble_eq_true rfl) d_M_format_1 ⟨Nat.zero_le _, Nat.zero_le _⟩ (fun v_ H locs hw hP hS => ?_)
  have hw := hw.symm; subst hw
  refine lv_iconst (v := nI 0) hx hb d_M_format_4 rfl ?_
  refine lv_istore_n (lv' := [(3, .int (nI (0))), (0, .ref (k 0)), (1, .long (x))]) hx hb d_M_format_5 rfl hl (by decide) rfl (fun ls hl => ?_)
  have hP : va_P D classes (mW k cI n (mU (wGd n d) (clr t 0 0) (mk))) H := by rw [clr_0]; exact hP
  have lp : ∀ (q : Nat) (i : Nat) (H : Heap) (locs : List Loc) (ls : Array Slot), (i ≤ 1024) → (1024 + 1 ≤ i + q) → va_P D classes (mW k cI n (mU (wGd n d) (clr t 0 i) (mk))) H → va_S A s.heap H locs → lv_has ls 4 [(3, .int (nI (i))), (0, .ref (k 0)), (1, .long (x))] → W p l e rm_M_format s m ([.ref (k 0), .long (x)] : List Value).toArray below meth c H locs 0 0 (MQ below (va_Qv (fun v => mO (foR n d x) v) (mB D k cI n A) A) ([.ref (k 0), .long (x)] : List Value).toArray s 0 0 A) (F0 m 6 ls []) := by
    intro q
    induction q with
    | zero =>
      intro i H locs ls hi hq hP hS hl
      exact absurd hq (by omega)
    | succ q ih =>
      intro i H locs ls hi hq hP hS hl
      refine lv_iload_n hx hb d_M_format_6 rfl (lv_at hl 0 rfl) ?_
      refine lv_sipush (v := nI 1024) hx hb d_M_format_7 rfl ?_
      refine lv_icmp_ge (tgt := 26) hx hb d_M_format_10 (by decide) (fun c_10 => ?_) (fun c_10 => ?_)
      · have hik : i = 1024 := ge_t hi (by omega) c_10
        rw [hik] at hP
        refine lv_aload_n hx hb d_M_format_26 rfl (lv_at hl 1 rfl) ?_
        refine va_get (D := D) (ci := 3) (v := .ref (k 3)) (C := R_M) (T := F_M) (N := 4) hx hb hts (fun w h => .tail _ (fi_M w h)) hown hK hP 0 rfl rfl 3 (by decide) (hts _ (.tail _ m_407)) (fun _ h9 => h9) rfl d_M_format_27 ?_
        refine lv_iconst (v := nI 0) hx hb d_M_format_30 rfl ?_
        refine lv_lload_n hx hb d_M_format_31 rfl (lv_at hl 2 rfl) ?_
        refine g_callSv (As := [.ref (k 3), .int (nI (0)), .long (x)]) (rest := []) ⟨hx, hb, hml, hown, hts⟩ (index := 120) (c_M_putGuid l D k cI n A hn hn2 (mU (wGd n d) (clr t 0 1024) (mk)) (3) (by omega) (by omega) (0) (x) (by omega)) (cwS 3 hts (gd_S m_525 m_526 m_33 m_527) rfl rfl rfl hd_M_putGuid ⟨Nat.le_of_ble_eq_true rfl, Nat.le_of_ble_eq_true rfl⟩) mW_w mX_x hB hP hS rfl hl.1 rfl (Nat.le_of_ble_eq_true rfl) d_M_format_32 ⟨Nat.zero_le _, Nat.zero_le _⟩ (fun v_ H locs hw hP hS => ?_)
        have hw := hw.symm; subst hw
        have hP : va_P D classes (mW k cI n (mU (wGd n d) (clr t 0 1024) (guid (mk) 0 x))) H := by rw [mU_3] at hP; exact hP
        refine lv_aload_n hx hb d_M_format_35 rfl (lv_at hl 1 rfl) ?_
        refine g_callVv (As := []) (rest := []) ⟨hx, hb, hml, hown, hts⟩ (C := R_M) (index := 124) (c_M_writeTable l D k cI n A hn hn2 (wGd n d) (clr t 0 1024) (guid (mk) 0 x) ) (cwV 0 hts (gd_V m_530 m_532 m_23 m_33 m_533) rfl rfl rfl hd_M_writeTable ⟨Nat.le_of_ble_eq_true rfl, Nat.le_of_ble_eq_true rfl⟩) mW_w mX_x hB hP hS (ci := 3) rfl (0) rfl rfl hl.1 rfl (Nat.le_of_ble_eq_true rfl) d_M_format_36 ⟨Nat.zero_le _, Nat.zero_le _⟩ (fun v_ H locs hw hP hS => ?_)
        have hw := hw.symm; subst hw
        exact g_vret hx hb hr hlk mW_w mX_x hB hP hS (⟨_, _, by rw [wT_for hn]⟩) d_M_format_39
      · have hik : i < 1024 := ge_f (by omega) (by omega) c_10
        refine lv_aload_n hx hb d_M_format_13 rfl (lv_at hl 1 rfl) ?_
        refine va_get (D := D) (ci := 3) (v := .ref (k 2)) (C := R_M) (T := F_M) (N := 4) hx hb hts (fun w h => .tail _ (fi_M w h)) hown hK hP 0 rfl rfl 2 (by decide) (hts _ (.tail _ m_406)) (fun _ h9 => h9) rfl d_M_format_14 ?_
        refine lv_iload_n hx hb d_M_format_17 rfl (lv_at hl 0 rfl) ?_
        refine lv_iconst (v := nI 0) hx hb d_M_format_18 rfl ?_
        refine m_iast hx hb hB hP hS (i := 2) (by decide) (by decide) (a := i) (y := 0) (rfl) (by omega) d_M_format_19 (fun H locs hP hS => ?_)
        have hP : va_P D classes (mW k cI n (mU (wGd n d) (va_up (clr t 0 i) i 0) (mk))) H := by rw [mU_2] at hP; exact hP
        rw [show va_up (clr t 0 i) i 0 = clr t 0 (i + 1) from by have z := clr_s t 0 i; rw [Nat.zero_add] at z; exact z] at hP
        refine lv_iinc (v := (nI (i + 1))) (lv' := [(3, .int (nI (i + 1))), (0, .ref (k 0)), (1, .long (x))]) hx hb d_M_format_20 hl (k := 0) rfl (nI_add _ _) (by decide) rfl (fun ls hl => ?_)
        refine lv_goto (tgt := 6) hx hb d_M_format_23 (by decide) ?_
        exact ih (i + 1) _ _ _ (by omega) (by omega) hP hS (lv_sub hl [0, 1, 2] rfl)
  exact lp (1024 + 1) 0 _ _ _ (Nat.zero_le _) (by omega) hP hS (lv_sub hl [0, 1, 2] rfl)
abbrev w_M_has : List Cond := .code y_M_has b_M_has 2 (some .boolean) :: ALL
abbrev rm_M_has : Room := { frames := 6, cells := 0, slots := 0, locals := 140 }
theorem hd_M_has : y_M_has.cls = R_M ∧ y_M_has.cls ≠ "java/lang/invoke/MethodHandle" ∧ y_M_has.cls ≠ "java/lang/invoke/VarHandle" ∧ (parseMethodDescriptor y_M_has.desc).map (fun d => d.parameters.length) = some 1 := by decide +kernel
set_option maxHeartbeats 4000000 in
set_option maxRecDepth 100000 in
theorem c_M_has (l : Launch) (D : va_G) (k : Nat → Nat) (cI : Nat → ClassId) (n : Nat) (A : Nat → Prop) (hn : 12 ≤ n) (hn2 : n ≤ 24) (d t mk : Nat → BitVec 8) (x : Int32) : Met l y_M_has w_M_has rm_M_has (va_Pc [.ref (k 0), .int (x)] (mB D k cI n A (mU d t mk))) (va_Qi (fun r v => (∃ j, j < 2 ∧ src n d = some j ∧ ptQ n d j x ∧ r = nI 1 ∧ v = mU d (cpT d t (cAr n j) 1024) (cpT d mk (cHd n j + 56) 16)) ∨ ((src n d = none ∨ ∃ j, src n d = some j ∧ ¬ ptQ n d j x) ∧ r = nI 0 ∧ mO d v)) (mB D k cI n A) A) 0 0 A := by
  refine g_ofW (cc := b_M_has) (maxL := 2) (ret := (some .boolean)) (by decide) rfl (Nat.le_of_ble_eq_true rfl) ?_
  intro p e s m below meth c ls hx hb hml hr hlk hown hts hnm hB hl
  have hown : s.vm.findClass R_M = some m.cls := hown
  have hP := hB.1
  have hK := hB.2.1
  obtain ⟨H, hH⟩ : ∃ H, H = s.heap := ⟨_, rfl⟩
  have hS : va_S A s.heap H [] := by rw [hH]; exact va_S.rf
  rw [← hH] at hP ⊢
  have hl : lv_has ls 2 [(0, .ref (k 0)), (1, .int (x))] := hl
  have z1 : mSz 1 = 12288 := rfl
  have z2 : mSz 2 = 1024 := rfl
  have z3 : mSz 3 = 16 := rfl
  refine lv_aload_n hx hb d_M_has_0 rfl (lv_at hl 0 rfl) ?_
  refine g_callVi (As := []) (rest := []) ⟨hx, hb, hml, hown, hts⟩ (C := R_M) (index := 127) (c_M_take l D k cI n A hn hn2 (d) (t) (mk) ) (cwV 0 hts (gd_V m_543 m_545 m_25 m_33 m_546) rfl rfl rfl hd_M_take ⟨Nat.le_of_ble_eq_true rfl, Nat.le_of_ble_eq_true rfl⟩) mW_w mX_x hB hP hS (ci := 3) rfl (0) rfl rfl hl.1 rfl (Nat.le_of_ble_eq_true rfl) d_M_has_1 ⟨Nat.zero_le _, Nat.zero_le _⟩ (fun r_ v_ H locs hw hP hS => ?_)
  rcases hw with ⟨j, hj, hsr, rfl, rfl⟩ | ⟨hsr, rfl, rfl⟩
  · have hHd := cHd_le hn hj
    have hAr := cAr_le hn hj
    refine lv_if_eq (tgt := 50) hx hb d_M_has_4 (by decide) (fun c9 => absurd c9 (by decide)) (fun _ => ?_)
    refine lv_iload_n hx hb d_M_has_7 rfl (lv_at hl 1 rfl) ?_
    refine lv_if_lt (tgt := 50) hx hb d_M_has_8 (by decide) (fun c_8 => ?_) (fun c_8 => ?_)
    · refine lv_iconst (v := nI 0) hx hb d_M_has_50 rfl ?_
      exact g_zret (v := (nI (0))) hx hb hr (rfl) hlk mW_w mX_x hB hP hS (Or.inr ⟨Or.inr ⟨j, hsr, fun z => z.1.1 c_8⟩, rfl, _, _, rfl⟩) d_M_has_51
    · refine lv_iload_n hx hb d_M_has_11 rfl (lv_at hl 1 rfl) ?_
      refine lv_bipush (v := nI 8) hx hb d_M_has_12 rfl ?_
      refine lv_icmp_ge (tgt := 50) hx hb d_M_has_14 (by decide) (fun c_14 => ?_) (fun c_14 => ?_)
      · refine lv_iconst (v := nI 0) hx hb d_M_has_50 rfl ?_
        exact g_zret (v := (nI (0))) hx hb hr (rfl) hlk mW_w mX_x hB hP hS (Or.inr ⟨Or.inr ⟨j, hsr, fun z => z.1.2 c_14⟩, rfl, _, _, rfl⟩) d_M_has_51
      · obtain ⟨a, ha, rfl⟩ := inR_ex (by decide) ⟨c_8, c_14⟩
        refine lv_aload_n hx hb d_M_has_17 rfl (lv_at hl 0 rfl) ?_
        refine va_get (D := D) (ci := 3) (v := .ref (k 2)) (C := R_M) (T := F_M) (N := 4) hx hb hts (fun w h => .tail _ (fi_M w h)) hown hK hP 0 rfl rfl 2 (by decide) (hts _ (.tail _ m_406)) (fun _ h9 => h9) rfl d_M_has_18 ?_
        refine lv_sipush (v := nI 128) hx hb d_M_has_21 rfl ?_
        refine lv_iload_n hx hb d_M_has_24 rfl (lv_at hl 1 rfl) ?_
        refine lv_if_lt (tgt := 34) hx hb d_M_has_25 (by decide) (fun c9 => absurd c9 (nI_pos (by omega))) (fun _ => ?_)
        refine lv_iload_n hx hb d_M_has_28 rfl (lv_at hl 1 rfl) ?_
        refine lv_bipush (v := nI 7) hx hb d_M_has_29 rfl ?_
        refine lv_icmp_le (tgt := 38) hx hb d_M_has_31 (by decide) (fun _ => ?_) (fun c9 => absurd (nI_le (by omega) (by decide)) c9)
        refine lv_iload_n hx hb d_M_has_38 rfl (lv_at hl 1 rfl) ?_
        refine lv_imulC hx hb d_M_has_39 ?_
        refine lv_z0 ?_
        refine g_callSi (As := [.ref (k 2), .int (nI (0 + a * 128))]) (rest := []) ⟨hx, hb, hml, hown, hts⟩ (index := 63) (c_M_isFree l D k cI n A hn hn2 (mU (d) (cpT d t (cAr n j) 1024) (cpT d mk (cHd n j + 56) 16)) (2) (by omega) (by omega) (0 + a * 128) (by omega)) (cwS 2 hts (gd_S m_485 m_486 m_33 m_487) rfl rfl rfl hd_M_isFree ⟨Nat.le_of_ble_eq_true rfl, Nat.le_of_ble_eq_true rfl⟩) mW_w mX_x hB hP hS rfl hl.1 rfl (Nat.le_of_ble_eq_true rfl) d_M_has_40 ⟨Nat.zero_le _, Nat.zero_le _⟩ (fun r_ v_ H locs hw hP hS => ?_)
        obtain ⟨hw1, hw2⟩ := hw; have hw1 : r_ = (bI (isZ (((cpT d t (cAr n j) 1024))) (0 + a * 128) 16)) := hw1; have hw1 := hw1.symm; have hw2 := hw2.symm; subst hw1; subst hw2
        refine lv_if_ne (tgt := 50) hx hb d_M_has_43 (by decide) (fun c_43 => ?_) (fun c_43 => ?_)
        · have c_43 := bI_1 c_43
          refine lv_iconst (v := nI 0) hx hb d_M_has_50 rfl ?_
          exact g_zret (v := (nI (0))) hx hb hr (rfl) hlk mW_w mX_x hB hP hS (Or.inr ⟨Or.inr ⟨j, hsr, fun z => z.2 (by rw [cl_nI (by omega)]; exact (T_fr ha).mp c_43)⟩, rfl, _, _, rfl⟩) d_M_has_51
        · have c_43 := bI_0.mp c_43
          refine lv_iconst (v := nI 1) hx hb d_M_has_46 rfl ?_
          refine lv_goto (tgt := 51) hx hb d_M_has_47 (by decide) ?_
          exact g_zret (v := (nI (1))) hx hb hr (rfl) hlk mW_w mX_x hB hP hS (Or.inl ⟨j, hj, hsr, ⟨⟨c_8, c_14⟩, by rw [cl_nI (by omega)]; exact fun z => c_43 ((T_fr ha).mpr z)⟩, rfl, rfl⟩) d_M_has_51
  · refine lv_if_eq (tgt := 50) hx hb d_M_has_4 (by decide) (fun _ => ?_) (fun c9 => absurd (by decide) c9)
    refine lv_iconst (v := nI 0) hx hb d_M_has_50 rfl ?_
    exact g_zret (v := (nI (0))) hx hb hr (rfl) hlk mW_w mX_x hB hP hS (Or.inr ⟨Or.inl hsr, rfl, _, _, rfl⟩) d_M_has_51
abbrev w_M_remove : List Cond := .code y_M_remove b_M_remove 3 (some .boolean) :: ALL
abbrev rm_M_remove : Room := { frames := 7, cells := 0, slots := 0, locals := 161 }
theorem hd_M_remove : y_M_remove.cls = R_M ∧ y_M_remove.cls ≠ "java/lang/invoke/MethodHandle" ∧ y_M_remove.cls ≠ "java/lang/invoke/VarHandle" ∧ (parseMethodDescriptor y_M_remove.desc).map (fun d => d.parameters.length) = some 1 := by decide +kernel
set_option maxHeartbeats 4000000 in
set_option maxRecDepth 100000 in
theorem c_M_remove (l : Launch) (D : va_G) (k : Nat → Nat) (cI : Nat → ClassId) (n : Nat) (A : Nat → Prop) (hn : 12 ≤ n) (hn2 : n ≤ 24) (d t mk : Nat → BitVec 8) (x : Int32) : Met l y_M_remove w_M_remove rm_M_remove (va_Pc [.ref (k 0), .int (x)] (mB D k cI n A (mU d t mk))) (va_Qi (fun r v => r = (rmR n d x).1 ∧ mO (rmR n d x).2 v) (mB D k cI n A) A) 0 0 A := by
  refine g_ofW (cc := b_M_remove) (maxL := 3) (ret := (some .boolean)) (by decide) rfl (Nat.le_of_ble_eq_true rfl) ?_
  intro p e s m below meth c ls hx hb hml hr hlk hown hts hnm hB hl
  have hown : s.vm.findClass R_M = some m.cls := hown
  have hP := hB.1
  have hK := hB.2.1
  obtain ⟨H, hH⟩ : ∃ H, H = s.heap := ⟨_, rfl⟩
  have hS : va_S A s.heap H [] := by rw [hH]; exact va_S.rf
  rw [← hH] at hP ⊢
  have hl : lv_has ls 3 [(0, .ref (k 0)), (1, .int (x))] := hl
  have z1 : mSz 1 = 12288 := rfl
  have z2 : mSz 2 = 1024 := rfl
  have z3 : mSz 3 = 16 := rfl
  refine lv_aload_n hx hb d_M_remove_0 rfl (lv_at hl 0 rfl) ?_
  refine lv_iload_n hx hb d_M_remove_1 rfl (lv_at hl 1 rfl) ?_
  refine g_callVi (As := [.int (x)]) (rest := []) ⟨hx, hb, hml, hown, hts⟩ (C := R_M) (index := 139) (c_M_has l D k cI n A hn hn2 (d) (t) (mk) (x)) (cwV 1 hts (gd_V m_560 m_562 m_28 m_33 m_563) rfl rfl rfl hd_M_has ⟨Nat.le_of_ble_eq_true rfl, Nat.le_of_ble_eq_true rfl⟩) mW_w mX_x hB hP hS (ci := 3) rfl (0) rfl rfl hl.1 rfl (Nat.le_of_ble_eq_true rfl) d_M_remove_2 ⟨Nat.zero_le _, Nat.zero_le _⟩ (fun r_ v_ H locs hw hP hS => ?_)
  rcases hw with ⟨j, hj, hsr, hpt, rfl, rfl⟩ | ⟨hno, rfl, t2, m2, rfl⟩
  · have hHd := cHd_le hn hj
    have hAr := cAr_le hn hj
    obtain ⟨a, ha, rfl⟩ := inR_ex (by decide) hpt.1
    refine lv_if_ne (tgt := 10) hx hb d_M_remove_5 (by decide) (fun _ => ?_) (fun c9 => absurd c9 (by decide))
    refine lv_iconst (v := nI 0) hx hb d_M_remove_10 rfl ?_
    refine lv_istore_n (lv' := [(2, .int (nI (0))), (0, .ref (k 0)), (1, .int (nI (a)))]) hx hb d_M_remove_11 rfl hl (by decide) rfl (fun ls hl => ?_)
    have hP : va_P D classes (mW k cI n (mU (d) (clr (cpT d t (cAr n j) 1024) (0 + a * 128) 0) (cpT d mk (cHd n j + 56) 16))) H := by rw [clr_0]; exact hP
    have lp : ∀ (q : Nat) (i : Nat) (H : Heap) (locs : List Loc) (ls : Array Slot), (i ≤ 128) → (128 + 1 ≤ i + q) → va_P D classes (mW k cI n (mU (d) (clr (cpT d t (cAr n j) 1024) (0 + a * 128) i) (cpT d mk (cHd n j + 56) 16))) H → va_S A s.heap H locs → lv_has ls 3 [(2, .int (nI (i))), (0, .ref (k 0)), (1, .int (nI (a)))] → W p l e rm_M_remove s m ([.ref (k 0), .int ((nI a))] : List Value).toArray below meth c H locs 0 0 (MQ below (va_Qi (fun r v => r = (rmR n d (nI a)).1 ∧ mO (rmR n d (nI a)).2 v) (mB D k cI n A) A) ([.ref (k 0), .int ((nI a))] : List Value).toArray s 0 0 A) (F0 m 12 ls []) := by
      intro q
      induction q with
      | zero =>
        intro i H locs ls hi hq hP hS hl
        exact absurd hq (by omega)
      | succ q ih =>
        intro i H locs ls hi hq hP hS hl
        refine lv_iload_n hx hb d_M_remove_12 rfl (lv_at hl 0 rfl) ?_
        refine lv_sipush (v := nI 128) hx hb d_M_remove_13 rfl ?_
        refine lv_icmp_ge (tgt := 38) hx hb d_M_remove_16 (by decide) (fun c_16 => ?_) (fun c_16 => ?_)
        · have hik : i = 128 := ge_t hi (by omega) c_16
          rw [hik] at hP
          refine lv_aload_n hx hb d_M_remove_38 rfl (lv_at hl 1 rfl) ?_
          refine g_callVv (As := []) (rest := []) ⟨hx, hb, hml, hown, hts⟩ (C := R_M) (index := 124) (c_M_writeTable l D k cI n A hn hn2 (d) (clr (cpT d t (cAr n j) 1024) (0 + a * 128) 128) (cpT d mk (cHd n j + 56) 16) ) (cwV 0 hts (gd_V m_530 m_532 m_23 m_33 m_533) rfl rfl rfl hd_M_writeTable ⟨Nat.le_of_ble_eq_true rfl, Nat.le_of_ble_eq_true rfl⟩) mW_w mX_x hB hP hS (ci := 3) rfl (0) rfl rfl hl.1 rfl (Nat.le_of_ble_eq_true rfl) d_M_remove_39 ⟨Nat.zero_le _, Nat.zero_le _⟩ (fun v_ H locs hw hP hS => ?_)
          have hw := hw.symm; subst hw
          refine lv_iconst (v := nI 1) hx hb d_M_remove_42 rfl ?_
          exact g_zret (v := (nI (1))) hx hb hr (rfl) hlk mW_w mX_x hB hP hS (by rw [rmR, oS_s hsr, cI_t hpt, cl_nI (by omega)]; exact ⟨rfl, _, _, by rw [wT_chg (d1 := clr d (cAr n j + a * 128) 128) hn hj (fun p hp => sh_clr (by omega) (cpT_at hp)) (fun p h9 => clr_out (by omega))]⟩) d_M_remove_43
        · have hik : i < 128 := ge_f (by omega) (by omega) c_16
          refine lv_aload_n hx hb d_M_remove_19 rfl (lv_at hl 1 rfl) ?_
          refine va_get (D := D) (ci := 3) (v := .ref (k 2)) (C := R_M) (T := F_M) (N := 4) hx hb hts (fun w h => .tail _ (fi_M w h)) hown hK hP 0 rfl rfl 2 (by decide) (hts _ (.tail _ m_406)) (fun _ h9 => h9) rfl d_M_remove_20 ?_
          refine lv_sipush (v := nI 128) hx hb d_M_remove_23 rfl ?_
          refine lv_iload_n hx hb d_M_remove_26 rfl (lv_at hl 2 rfl) ?_
          refine lv_imulC hx hb d_M_remove_27 ?_
          refine lv_z0 ?_
          refine lv_iload_n hx hb d_M_remove_28 rfl (lv_at hl 0 rfl) ?_
          refine lv_iaddN hx hb d_M_remove_29 ?_
          refine lv_iconst (v := nI 0) hx hb d_M_remove_30 rfl ?_
          refine m_iast hx hb hB hP hS (i := 2) (by decide) (by decide) (a := (0 + a * 128) + i) (y := 0) (rfl) (by omega) d_M_remove_31 (fun H locs hP hS => ?_)
          have hP : va_P D classes (mW k cI n (mU (d) (va_up (clr (cpT d t (cAr n j) 1024) (0 + a * 128) i) ((0 + a * 128) + i) 0) (cpT d mk (cHd n j + 56) 16))) H := by rw [mU_2] at hP; exact hP
          rw [clr_s] at hP
          refine lv_iinc (v := (nI (i + 1))) (lv' := [(2, .int (nI (i + 1))), (0, .ref (k 0)), (1, .int (nI (a)))]) hx hb d_M_remove_32 hl (k := 0) rfl (nI_add _ _) (by decide) rfl (fun ls hl => ?_)
          refine lv_goto (tgt := 12) hx hb d_M_remove_35 (by decide) ?_
          exact ih (i + 1) _ _ _ (by omega) (by omega) hP hS (lv_sub hl [0, 1, 2] rfl)
    exact lp (128 + 1) 0 _ _ _ (Nat.zero_le _) (by omega) hP hS (lv_sub hl [0, 1, 2] rfl)
  · refine lv_if_ne (tgt := 10) hx hb d_M_remove_5 (by decide) (fun c9 => absurd (by decide) c9) (fun _ => ?_)
    refine lv_iconst (v := nI 0) hx hb d_M_remove_8 rfl ?_
    exact g_zret (v := (nI (0))) hx hb hr (rfl) hlk mW_w mX_x hB hP hS (by rw [rm_no hno]; exact ⟨rfl, _, _, rfl⟩) d_M_remove_9
abbrev w_M_rename : List Cond := .code y_M_rename b_M_rename 4 (some .boolean) :: ALL
abbrev rm_M_rename : Room := { frames := 7, cells := 0, slots := 0, locals := 161 }
theorem hd_M_rename : y_M_rename.cls = R_M ∧ y_M_rename.cls ≠ "java/lang/invoke/MethodHandle" ∧ y_M_rename.cls ≠ "java/lang/invoke/VarHandle" ∧ (parseMethodDescriptor y_M_rename.desc).map (fun d => d.parameters.length) = some 3 := by decide +kernel
set_option maxHeartbeats 4000000 in
set_option maxRecDepth 100000 in
theorem c_M_rename (l : Launch) (D : va_G) (k : Nat → Nat) (cI : Nat → ClassId) (n : Nat) (A : Nat → Prop) (hn : 12 ≤ n) (hn2 : n ≤ 24) (d t mk : Nat → BitVec 8) (x y z : Int32) : Met l y_M_rename w_M_rename rm_M_rename (va_Pc [.ref (k 0), .int (x), .int (y), .int (z)] (mB D k cI n A (mU d t mk))) (va_Qi (fun r v => r = (rnR n d x y z).1 ∧ mO (rnR n d x y z).2 v) (mB D k cI n A) A) 0 0 A := by
  refine g_ofW (cc := b_M_rename) (maxL := 4) (ret := (some .boolean)) (by decide) rfl (Nat.le_of_ble_eq_true rfl) ?_
  intro p e s m below meth c ls hx hb hml hr hlk hown hts hnm hB hl
  have hown : s.vm.findClass R_M = some m.cls := hown
  have hP := hB.1
  have hK := hB.2.1
  obtain ⟨H, hH⟩ : ∃ H, H = s.heap := ⟨_, rfl⟩
  have hS : va_S A s.heap H [] := by rw [hH]; exact va_S.rf
  rw [← hH] at hP ⊢
  have hl : lv_has ls 4 [(0, .ref (k 0)), (1, .int (x)), (2, .int (y)), (3, .int (z))] := hl
  have z1 : mSz 1 = 12288 := rfl
  have z2 : mSz 2 = 1024 := rfl
  have z3 : mSz 3 = 16 := rfl
  refine lv_aload_n hx hb d_M_rename_0 rfl (lv_at hl 0 rfl) ?_
  refine lv_iload_n hx hb d_M_rename_1 rfl (lv_at hl 1 rfl) ?_
  refine g_callVi (As := [.int (x)]) (rest := []) ⟨hx, hb, hml, hown, hts⟩ (C := R_M) (index := 139) (c_M_has l D k cI n A hn hn2 (d) (t) (mk) (x)) (cwV 1 hts (gd_V m_560 m_562 m_28 m_33 m_563) rfl rfl rfl hd_M_has ⟨Nat.le_of_ble_eq_true rfl, Nat.le_of_ble_eq_true rfl⟩) mW_w mX_x hB hP hS (ci := 3) rfl (0) rfl rfl hl.1 rfl (Nat.le_of_ble_eq_true rfl) d_M_rename_2 ⟨Nat.zero_le _, Nat.zero_le _⟩ (fun r_ v_ H locs hw hP hS => ?_)
  rcases hw with ⟨j, hj, hsr, hpt, rfl, rfl⟩ | ⟨hno, rfl, t2, m2, rfl⟩
  · have hHd := cHd_le hn hj
    have hAr := cAr_le hn hj
    obtain ⟨a, ha, rfl⟩ := inR_ex (by decide) hpt.1
    refine lv_if_eq (tgt := 18) hx hb d_M_rename_5 (by decide) (fun c9 => absurd c9 (by decide)) (fun _ => ?_)
    refine lv_iload_n hx hb d_M_rename_8 rfl (lv_at hl 2 rfl) ?_
    refine lv_if_lt (tgt := 18) hx hb d_M_rename_9 (by decide) (fun c_9 => ?_) (fun c_9 => ?_)
    · refine lv_iconst (v := nI 0) hx hb d_M_rename_18 rfl ?_
      exact g_zret (v := (nI (0))) hx hb hr (rfl) hlk mW_w mX_x hB hP hS (by rw [rnR, oS_s hsr, cI_f (q := ptQ n d j (nI a) ∧ inR y 36) (fun z => z.2.1 c_9)]; exact ⟨rfl, _, _, rfl⟩) d_M_rename_19
    · refine lv_iload_n hx hb d_M_rename_12 rfl (lv_at hl 2 rfl) ?_
      refine lv_bipush (v := nI 35) hx hb d_M_rename_13 rfl ?_
      refine lv_icmp_le (tgt := 20) hx hb d_M_rename_15 (by decide) (fun c_15 => ?_) (fun c_15 => ?_)
      · have hy : inR y 36 := up_in (by decide) c_9 (fun z => absurd c_15 (Int32.not_le.mpr z))
        obtain ⟨b, hb2, rfl⟩ := inR_ex (by decide) hy
        refine lv_aload_n hx hb d_M_rename_20 rfl (lv_at hl 0 rfl) ?_
        refine va_get (D := D) (ci := 3) (v := .ref (k 2)) (C := R_M) (T := F_M) (N := 4) hx hb hts (fun w h => .tail _ (fi_M w h)) hown hK hP 0 rfl rfl 2 (by decide) (hts _ (.tail _ m_406)) (fun _ h9 => h9) rfl d_M_rename_21 ?_
        refine lv_sipush (v := nI 128) hx hb d_M_rename_24 rfl ?_
        refine lv_iload_n hx hb d_M_rename_27 rfl (lv_at hl 1 rfl) ?_
        refine lv_imulC hx hb d_M_rename_28 ?_
        refine lv_z0 ?_
        refine lv_bipush (v := nI 56) hx hb d_M_rename_29 rfl ?_
        refine lv_iaddN hx hb d_M_rename_31 ?_
        refine lv_iconst (v := nI 2) hx hb d_M_rename_32 rfl ?_
        refine lv_iload_n hx hb d_M_rename_33 rfl (lv_at hl 2 rfl) ?_
        refine lv_imulN hx hb d_M_rename_34 ?_
        refine lv_iaddN hx hb d_M_rename_35 ?_
        refine lv_iconst (v := nI 2) hx hb d_M_rename_36 rfl ?_
        refine lv_iload_n hx hb d_M_rename_37 rfl (lv_at hl 3 rfl) ?_
        refine lv_i2l hx hb d_M_rename_38 rfl ?_
        refine g_callSv (As := [.ref (k 2), .int (nI (((0 + a * 128) + 56) + (2 * b))), .int (nI (2)), .long ((z).toInt64)]) (rest := []) ⟨hx, hb, hml, hown, hts⟩ (index := 29) (c_M_put l D k cI n A hn hn2 (mU (d) (cpT d t (cAr n j) 1024) (cpT d mk (cHd n j + 56) 16)) (2) (by omega) (by omega) (((0 + a * 128) + 56) + (2 * b)) (2) ((z).toInt64) (by omega) (by omega)) (cwS 4 hts (gd_S m_513 m_514 m_33 m_515) rfl rfl rfl hd_M_put ⟨Nat.le_of_ble_eq_true rfl, Nat.le_of_ble_eq_true rfl⟩) mW_w mX_x hB hP hS rfl hl.1 rfl (Nat.le_of_ble_eq_true rfl) d_M_rename_39 ⟨Nat.zero_le _, Nat.zero_le _⟩ (fun v_ H locs hw hP hS => ?_)
        have hw := hw.symm; subst hw
        have hP : va_P D classes (mW k cI n (mU (d) (setN (((cpT d t (cAr n j) 1024))) (((0 + a * 128) + 56) + (2 * b)) 2 ((z).toInt64)) (cpT d mk (cHd n j + 56) 16))) H := by rw [mU_2] at hP; exact hP
        refine lv_aload_n hx hb d_M_rename_42 rfl (lv_at hl 0 rfl) ?_
        refine g_callVv (As := []) (rest := []) ⟨hx, hb, hml, hown, hts⟩ (C := R_M) (index := 124) (c_M_writeTable l D k cI n A hn hn2 (d) (setN (((cpT d t (cAr n j) 1024))) (((0 + a * 128) + 56) + (2 * b)) 2 ((z).toInt64)) (cpT d mk (cHd n j + 56) 16) ) (cwV 0 hts (gd_V m_530 m_532 m_23 m_33 m_533) rfl rfl rfl hd_M_writeTable ⟨Nat.le_of_ble_eq_true rfl, Nat.le_of_ble_eq_true rfl⟩) mW_w mX_x hB hP hS (ci := 3) rfl (0) rfl rfl hl.1 rfl (Nat.le_of_ble_eq_true rfl) d_M_rename_43 ⟨Nat.zero_le _, Nat.zero_le _⟩ (fun v_ H locs hw hP hS => ?_)
        have hw := hw.symm; subst hw
        refine lv_iconst (v := nI 1) hx hb d_M_rename_46 rfl ?_
        exact g_zret (v := (nI (1))) hx hb hr (rfl) hlk mW_w mX_x hB hP hS (by rw [rnR, oS_s hsr, cI_t ⟨hpt, hy⟩, cl_nI (by omega), cl_nI (by omega)]; exact ⟨rfl, _, _, by rw [wT_chg (d1 := setN d (cAr n j + a * 128 + 56 + 2 * b) 2 z.toInt64) hn hj (fun p hp => sh_set (by omega) (cpT_at hp)) (fun p h9 => setN_out (by omega))]⟩) d_M_rename_47
      · refine lv_iconst (v := nI 0) hx hb d_M_rename_18 rfl ?_
        exact g_zret (v := (nI (0))) hx hb hr (rfl) hlk mW_w mX_x hB hP hS (by rw [rnR, oS_s hsr, cI_f (q := ptQ n d j (nI a) ∧ inR y 36) (fun z => c_15 (Int32.not_lt.mp (in_up (k := 35) (by decide) z.2)))]; exact ⟨rfl, _, _, rfl⟩) d_M_rename_19
  · refine lv_if_eq (tgt := 18) hx hb d_M_rename_5 (by decide) (fun _ => ?_) (fun c9 => absurd (by decide) c9)
    refine lv_iconst (v := nI 0) hx hb d_M_rename_18 rfl ?_
    exact g_zret (v := (nI (0))) hx hb hr (rfl) hlk mW_w mX_x hB hP hS (by rw [rn_no hno]; exact ⟨rfl, _, _, rfl⟩) d_M_rename_19
abbrev w_M_move : List Cond := .code y_M_move b_M_move 4 (some .boolean) :: ALL
abbrev rm_M_move : Room := { frames := 7, cells := 0, slots := 0, locals := 161 }
theorem hd_M_move : y_M_move.cls = R_M ∧ y_M_move.cls ≠ "java/lang/invoke/MethodHandle" ∧ y_M_move.cls ≠ "java/lang/invoke/VarHandle" ∧ (parseMethodDescriptor y_M_move.desc).map (fun d => d.parameters.length) = some 3 := by decide +kernel
set_option maxHeartbeats 4000000 in
set_option maxRecDepth 100000 in
theorem c_M_move (l : Launch) (D : va_G) (k : Nat → Nat) (cI : Nat → ClassId) (n : Nat) (A : Nat → Prop) (hn : 12 ≤ n) (hn2 : n ≤ 24) (d t mk : Nat → BitVec 8) (x y z : Int32) : Met l y_M_move w_M_move rm_M_move (va_Pc [.ref (k 0), .int (x), .int (y), .int (z)] (mB D k cI n A (mU d t mk))) (va_Qi (fun r v => r = (moR n d x y z).1 ∧ mO (moR n d x y z).2 v) (mB D k cI n A) A) 0 0 A := by
  refine g_ofW (cc := b_M_move) (maxL := 4) (ret := (some .boolean)) (by decide) rfl (Nat.le_of_ble_eq_true rfl) ?_
  intro p e s m below meth c ls hx hb hml hr hlk hown hts hnm hB hl
  have hown : s.vm.findClass R_M = some m.cls := hown
  have hP := hB.1
  have hK := hB.2.1
  obtain ⟨H, hH⟩ : ∃ H, H = s.heap := ⟨_, rfl⟩
  have hS : va_S A s.heap H [] := by rw [hH]; exact va_S.rf
  rw [← hH] at hP ⊢
  have hl : lv_has ls 4 [(0, .ref (k 0)), (1, .int (x)), (2, .int (y)), (3, .int (z))] := hl
  have z1 : mSz 1 = 12288 := rfl
  have z2 : mSz 2 = 1024 := rfl
  have z3 : mSz 3 = 16 := rfl
  refine lv_aload_n hx hb d_M_move_0 rfl (lv_at hl 0 rfl) ?_
  refine lv_iload_n hx hb d_M_move_1 rfl (lv_at hl 1 rfl) ?_
  refine g_callVi (As := [.int (x)]) (rest := []) ⟨hx, hb, hml, hown, hts⟩ (C := R_M) (index := 139) (c_M_has l D k cI n A hn hn2 (d) (t) (mk) (x)) (cwV 1 hts (gd_V m_560 m_562 m_28 m_33 m_563) rfl rfl rfl hd_M_has ⟨Nat.le_of_ble_eq_true rfl, Nat.le_of_ble_eq_true rfl⟩) mW_w mX_x hB hP hS (ci := 3) rfl (0) rfl rfl hl.1 rfl (Nat.le_of_ble_eq_true rfl) d_M_move_2 ⟨Nat.zero_le _, Nat.zero_le _⟩ (fun r_ v_ H locs hw hP hS => ?_)
  rcases hw with ⟨j, hj, hsr, hpt, rfl, rfl⟩ | ⟨hno, rfl, t2, m2, rfl⟩
  · have hHd := cHd_le hn hj
    have hAr := cAr_le hn hj
    obtain ⟨a, ha, rfl⟩ := inR_ex (by decide) hpt.1
    refine lv_if_eq (tgt := 29) hx hb d_M_move_5 (by decide) (fun c9 => absurd c9 (by decide)) (fun _ => ?_)
    refine lv_aload_n hx hb d_M_move_8 rfl (lv_at hl 0 rfl) ?_
    refine lv_iload_n hx hb d_M_move_9 rfl (lv_at hl 2 rfl) ?_
    refine lv_i2l hx hb d_M_move_10 rfl ?_
    refine lv_iload_n hx hb d_M_move_11 rfl (lv_at hl 3 rfl) ?_
    refine lv_i2l hx hb d_M_move_12 rfl ?_
    refine g_callVi (As := [.long ((y).toInt64), .long ((z).toInt64)]) (rest := []) ⟨hx, hb, hml, hown, hts⟩ (C := R_M) (index := 74) (c_M_badRange l D k cI n A hn hn2 (d) (cpT d t (cAr n j) 1024) (cpT d mk (cHd n j + 56) 16) ((y).toInt64) ((z).toInt64)) (cwV 2 hts (gd_V m_497 m_499 m_21 m_33 m_500) rfl rfl rfl hd_M_badRange ⟨Nat.le_of_ble_eq_true rfl, Nat.le_of_ble_eq_true rfl⟩) mW_w mX_x hB hP hS (ci := 3) rfl (0) rfl rfl hl.1 rfl (Nat.le_of_ble_eq_true rfl) d_M_move_13 ⟨Nat.zero_le _, Nat.zero_le _⟩ (fun r_ v_ H locs hw hP hS => ?_)
    obtain ⟨hw1, hw2⟩ := hw; have hw1 := hw1.symm; have hw2 := hw2.symm; subst hw1; subst hw2
    refine lv_if_ne (tgt := 29) hx hb d_M_move_16 (by decide) (fun c_16 => ?_) (fun c_16 => ?_)
    · have c_16 := bI_1 c_16
      refine lv_iconst (v := nI 0) hx hb d_M_move_29 rfl ?_
      exact g_zret (v := (nI (0))) hx hb hr (rfl) hlk mW_w mX_x hB hP hS (by rw [moR, oS_s hsr, cI_f (q := ptQ n d j (nI a) ∧ usa n y.toInt64 z.toInt64 ∧ ¬ tak d (cAr n j) y.toInt64 z.toInt64 (nI a)) (fun w => c_16 w.2.1)]; exact ⟨rfl, _, _, rfl⟩) d_M_move_30
    · have c_16 := bI_0.mp c_16
      refine lv_aload_n hx hb d_M_move_19 rfl (lv_at hl 0 rfl) ?_
      refine lv_iload_n hx hb d_M_move_20 rfl (lv_at hl 2 rfl) ?_
      refine lv_iload_n hx hb d_M_move_21 rfl (lv_at hl 3 rfl) ?_
      refine lv_iload_n hx hb d_M_move_22 rfl (lv_at hl 1 rfl) ?_
      refine g_callVi (As := [.int (y), .int (z), .int (nI (a))]) (rest := []) ⟨hx, hb, hml, hown, hts⟩ (C := R_M) (index := 131) (c_M_taken l D k cI n A hn hn2 (d) (cpT d t (cAr n j) 1024) (cpT d mk (cHd n j + 56) 16) (y) (z) ((nI (a)))) (cwV 3 hts (gd_V m_548 m_550 m_26 m_33 m_551) rfl rfl rfl hd_M_taken ⟨Nat.le_of_ble_eq_true rfl, Nat.le_of_ble_eq_true rfl⟩) mW_w mX_x hB hP hS (ci := 3) rfl (0) rfl rfl hl.1 rfl (Nat.le_of_ble_eq_true rfl) d_M_move_23 ⟨Nat.zero_le _, Nat.zero_le _⟩ (fun r_ v_ H locs hw hP hS => ?_)
      obtain ⟨hw1, hw2⟩ := hw; have hw1 := hw1.symm; have hw2 := hw2.symm; subst hw1; subst hw2
      refine lv_if_eq (tgt := 31) hx hb d_M_move_26 (by decide) (fun c_26 => ?_) (fun c_26 => ?_)
      · have c_26 := bI_0.mp c_26
        refine lv_aload_n hx hb d_M_move_31 rfl (lv_at hl 0 rfl) ?_
        refine va_get (D := D) (ci := 3) (v := .ref (k 2)) (C := R_M) (T := F_M) (N := 4) hx hb hts (fun w h => .tail _ (fi_M w h)) hown hK hP 0 rfl rfl 2 (by decide) (hts _ (.tail _ m_406)) (fun _ h9 => h9) rfl d_M_move_32 ?_
        refine lv_sipush (v := nI 128) hx hb d_M_move_35 rfl ?_
        refine lv_iload_n hx hb d_M_move_38 rfl (lv_at hl 1 rfl) ?_
        refine lv_imulC hx hb d_M_move_39 ?_
        refine lv_z0 ?_
        refine lv_bipush (v := nI 32) hx hb d_M_move_40 rfl ?_
        refine lv_iaddN hx hb d_M_move_42 ?_
        refine lv_bipush (v := nI 8) hx hb d_M_move_43 rfl ?_
        refine lv_iload_n hx hb d_M_move_45 rfl (lv_at hl 2 rfl) ?_
        refine lv_i2l hx hb d_M_move_46 rfl ?_
        refine g_callSv (As := [.ref (k 2), .int (nI ((0 + a * 128) + 32)), .int (nI (8)), .long ((y).toInt64)]) (rest := []) ⟨hx, hb, hml, hown, hts⟩ (index := 29) (c_M_put l D k cI n A hn hn2 (mU (d) (cpT d t (cAr n j) 1024) (cpT d mk (cHd n j + 56) 16)) (2) (by omega) (by omega) ((0 + a * 128) + 32) (8) ((y).toInt64) (by omega) (by omega)) (cwS 4 hts (gd_S m_513 m_514 m_33 m_515) rfl rfl rfl hd_M_put ⟨Nat.le_of_ble_eq_true rfl, Nat.le_of_ble_eq_true rfl⟩) mW_w mX_x hB hP hS rfl hl.1 rfl (Nat.le_of_ble_eq_true rfl) d_M_move_47 ⟨Nat.zero_le _, Nat.zero_le _⟩ (fun v_ H locs hw hP hS => ?_)
        have hw := hw.symm; subst hw
        have hP : va_P D classes (mW k cI n (mU (d) (setN (((cpT d t (cAr n j) 1024))) ((0 + a * 128) + 32) 8 ((y).toInt64)) (cpT d mk (cHd n j + 56) 16))) H := by rw [mU_2] at hP; exact hP
        refine lv_aload_n hx hb d_M_move_50 rfl (lv_at hl 0 rfl) ?_
        refine va_get (D := D) (ci := 3) (v := .ref (k 2)) (C := R_M) (T := F_M) (N := 4) hx hb hts (fun w h => .tail _ (fi_M w h)) hown hK hP 0 rfl rfl 2 (by decide) (hts _ (.tail _ m_406)) (fun _ h9 => h9) rfl d_M_move_51 ?_
        refine lv_sipush (v := nI 128) hx hb d_M_move_54 rfl ?_
        refine lv_iload_n hx hb d_M_move_57 rfl (lv_at hl 1 rfl) ?_
        refine lv_imulC hx hb d_M_move_58 ?_
        refine lv_z0 ?_
        refine lv_bipush (v := nI 40) hx hb d_M_move_59 rfl ?_
        refine lv_iaddN hx hb d_M_move_61 ?_
        refine lv_bipush (v := nI 8) hx hb d_M_move_62 rfl ?_
        refine lv_iload_n hx hb d_M_move_64 rfl (lv_at hl 3 rfl) ?_
        refine lv_i2l hx hb d_M_move_65 rfl ?_
        refine g_callSv (As := [.ref (k 2), .int (nI ((0 + a * 128) + 40)), .int (nI (8)), .long ((z).toInt64)]) (rest := []) ⟨hx, hb, hml, hown, hts⟩ (index := 29) (c_M_put l D k cI n A hn hn2 (mU (d) (setN (((cpT d t (cAr n j) 1024))) ((0 + a * 128) + 32) 8 ((y).toInt64)) (cpT d mk (cHd n j + 56) 16)) (2) (by omega) (by omega) ((0 + a * 128) + 40) (8) ((z).toInt64) (by omega) (by omega)) (cwS 4 hts (gd_S m_513 m_514 m_33 m_515) rfl rfl rfl hd_M_put ⟨Nat.le_of_ble_eq_true rfl, Nat.le_of_ble_eq_true rfl⟩) mW_w mX_x hB hP hS rfl hl.1 rfl (Nat.le_of_ble_eq_true rfl) d_M_move_66 ⟨Nat.zero_le _, Nat.zero_le _⟩ (fun v_ H locs hw hP hS => ?_)
        have hw := hw.symm; subst hw
        have hP : va_P D classes (mW k cI n (mU (d) (setN (((setN (((cpT d t (cAr n j) 1024))) ((0 + a * 128) + 32) 8 ((y).toInt64)))) ((0 + a * 128) + 40) 8 ((z).toInt64)) (cpT d mk (cHd n j + 56) 16))) H := by rw [mU_2] at hP; exact hP
        refine lv_aload_n hx hb d_M_move_69 rfl (lv_at hl 0 rfl) ?_
        refine g_callVv (As := []) (rest := []) ⟨hx, hb, hml, hown, hts⟩ (C := R_M) (index := 124) (c_M_writeTable l D k cI n A hn hn2 (d) (setN (((setN (((cpT d t (cAr n j) 1024))) ((0 + a * 128) + 32) 8 ((y).toInt64)))) ((0 + a * 128) + 40) 8 ((z).toInt64)) (cpT d mk (cHd n j + 56) 16) ) (cwV 0 hts (gd_V m_530 m_532 m_23 m_33 m_533) rfl rfl rfl hd_M_writeTable ⟨Nat.le_of_ble_eq_true rfl, Nat.le_of_ble_eq_true rfl⟩) mW_w mX_x hB hP hS (ci := 3) rfl (0) rfl rfl hl.1 rfl (Nat.le_of_ble_eq_true rfl) d_M_move_70 ⟨Nat.zero_le _, Nat.zero_le _⟩ (fun v_ H locs hw hP hS => ?_)
        have hw := hw.symm; subst hw
        refine lv_iconst (v := nI 1) hx hb d_M_move_73 rfl ?_
        exact g_zret (v := (nI (1))) hx hb hr (rfl) hlk mW_w mX_x hB hP hS (by rw [moR, oS_s hsr, cI_t ⟨hpt, Classical.not_not.mp c_16, fun w => c_26 (T_tak.mpr w)⟩, cl_nI (by omega)]; exact ⟨rfl, _, _, by rw [wT_chg (d1 := setN (setN d (cAr n j + a * 128 + 32) 8 y.toInt64) (cAr n j + a * 128 + 40) 8 z.toInt64) hn hj (fun p hp => sh_set (by omega) (sh_set (by omega) (cpT_at hp))) (fun p h9 => (setN_out (by omega)).trans (setN_out (by omega)))]⟩) d_M_move_74
      · have c_26 := bI_1 c_26
        refine lv_iconst (v := nI 0) hx hb d_M_move_29 rfl ?_
        exact g_zret (v := (nI (0))) hx hb hr (rfl) hlk mW_w mX_x hB hP hS (by rw [moR, oS_s hsr, cI_f (q := ptQ n d j (nI a) ∧ usa n y.toInt64 z.toInt64 ∧ ¬ tak d (cAr n j) y.toInt64 z.toInt64 (nI a)) (fun w => w.2.2 (T_tak.mp c_26))]; exact ⟨rfl, _, _, rfl⟩) d_M_move_30
  · refine lv_if_eq (tgt := 29) hx hb d_M_move_5 (by decide) (fun _ => ?_) (fun c9 => absurd (by decide) c9)
    refine lv_iconst (v := nI 0) hx hb d_M_move_29 rfl ?_
    exact g_zret (v := (nI (0))) hx hb hr (rfl) hlk mW_w mX_x hB hP hS (by rw [mo_no hno]; exact ⟨rfl, _, _, rfl⟩) d_M_move_30
abbrev w_M_make : List Cond := .code y_M_make b_M_make 12 (some .int) :: ALL
abbrev rm_M_make : Room := { frames := 6, cells := 0, slots := 0, locals := 140 }
theorem hd_M_make : y_M_make.cls = R_M ∧ y_M_make.cls ≠ "java/lang/invoke/MethodHandle" ∧ y_M_make.cls ≠ "java/lang/invoke/VarHandle" ∧ (parseMethodDescriptor y_M_make.desc).map (fun d => d.parameters.length) = some 5 := by decide +kernel
set_option maxHeartbeats 4000000 in
set_option maxRecDepth 100000 in
theorem c_M_make (l : Launch) (D : va_G) (k : Nat → Nat) (cI : Nat → ClassId) (n : Nat) (A : Nat → Prop) (hn : 12 ≤ n) (hn2 : n ≤ 24) (d t mk : Nat → BitVec 8) (x y : Int32) (ty0 ma0 at0 : Int64) : Met l y_M_make w_M_make rm_M_make (va_Pc [.ref (k 0), .int (x), .int (y), .long (ty0), .long (ma0), .long (at0)] (mB D k cI n A (mU d t mk))) (va_Qi (fun r v => r = (maR n d x y ty0 ma0 at0).1 ∧ mO (maR n d x y ty0 ma0 at0).2 v) (mB D k cI n A) A) 0 0 A := by
  refine g_ofW (cc := b_M_make) (maxL := 12) (ret := (some .int)) (by decide) rfl (Nat.le_of_ble_eq_true rfl) ?_
  intro p e s m below meth c ls hx hb hml hr hlk hown hts hnm hB hl
  have hown : s.vm.findClass R_M = some m.cls := hown
  have hP := hB.1
  have hK := hB.2.1
  obtain ⟨H, hH⟩ : ∃ H, H = s.heap := ⟨_, rfl⟩
  have hS : va_S A s.heap H [] := by rw [hH]; exact va_S.rf
  rw [← hH] at hP ⊢
  have hl : lv_has ls 12 [(0, .ref (k 0)), (1, .int (x)), (2, .int (y)), (3, .long (ty0)), (5, .long (ma0)), (7, .long (at0))] := hl
  have z1 : mSz 1 = 12288 := rfl
  have z2 : mSz 2 = 1024 := rfl
  have z3 : mSz 3 = 16 := rfl
  refine lv_aload_n hx hb d_M_make_0 rfl (lv_at hl 0 rfl) ?_
  refine g_callVi (As := []) (rest := []) ⟨hx, hb, hml, hown, hts⟩ (C := R_M) (index := 127) (c_M_take l D k cI n A hn hn2 (d) (t) (mk) ) (cwV 0 hts (gd_V m_543 m_545 m_25 m_33 m_546) rfl rfl rfl hd_M_take ⟨Nat.le_of_ble_eq_true rfl, Nat.le_of_ble_eq_true rfl⟩) mW_w mX_x hB hP hS (ci := 3) rfl (0) rfl rfl hl.1 rfl (Nat.le_of_ble_eq_true rfl) d_M_make_1 ⟨Nat.zero_le _, Nat.zero_le _⟩ (fun r_ v_ H locs hw hP hS => ?_)
  rcases hw with ⟨j, hj, hsr, rfl, rfl⟩ | ⟨hsr, rfl, rfl⟩
  · have hHd := cHd_le hn hj
    have hAr := cAr_le hn hj
    refine lv_if_ne (tgt := 9) hx hb d_M_make_4 (by decide) (fun _ => ?_) (fun c9 => absurd c9 (by decide))
    refine lv_lload_n hx hb d_M_make_9 rfl (lv_at hl 3 rfl) ?_
    refine lv_lconst (v := 0) hx hb d_M_make_10 rfl ?_
    refine W.lcmp hx hb d_M_make_11 ?_
    refine lv_if_ne (tgt := 18) hx hb d_M_make_12 (by decide) (fun c_12 => ?_) (fun c_12 => ?_)
    · have c_12 := fun z => c_12 ((lg_cmp_eq _ _).mpr z)
      refine lv_aload_n hx hb d_M_make_18 rfl (lv_at hl 0 rfl) ?_
      refine lv_iload_n hx hb d_M_make_19 rfl (lv_at hl 1 rfl) ?_
      refine lv_i2l hx hb d_M_make_20 rfl ?_
      refine lv_iload_n hx hb d_M_make_21 rfl (lv_at hl 2 rfl) ?_
      refine lv_i2l hx hb d_M_make_22 rfl ?_
      refine g_callVi (As := [.long ((x).toInt64), .long ((y).toInt64)]) (rest := []) ⟨hx, hb, hml, hown, hts⟩ (C := R_M) (index := 74) (c_M_badRange l D k cI n A hn hn2 (d) (cpT d t (cAr n j) 1024) (cpT d mk (cHd n j + 56) 16) ((x).toInt64) ((y).toInt64)) (cwV 2 hts (gd_V m_497 m_499 m_21 m_33 m_500) rfl rfl rfl hd_M_badRange ⟨Nat.le_of_ble_eq_true rfl, Nat.le_of_ble_eq_true rfl⟩) mW_w mX_x hB hP hS (ci := 3) rfl (0) rfl rfl hl.1 rfl (Nat.le_of_ble_eq_true rfl) d_M_make_23 ⟨Nat.zero_le _, Nat.zero_le _⟩ (fun r_ v_ H locs hw hP hS => ?_)
      obtain ⟨hw1, hw2⟩ := hw; have hw1 := hw1.symm; have hw2 := hw2.symm; subst hw1; subst hw2
      refine lv_if_eq (tgt := 32) hx hb d_M_make_26 (by decide) (fun c_26 => ?_) (fun c_26 => ?_)
      · have c_26 := bI_0.mp c_26
        refine lv_aload_n hx hb d_M_make_32 rfl (lv_at hl 0 rfl) ?_
        refine lv_iload_n hx hb d_M_make_33 rfl (lv_at hl 1 rfl) ?_
        refine lv_iload_n hx hb d_M_make_34 rfl (lv_at hl 2 rfl) ?_
        refine lv_iconst (v := -1) hx hb d_M_make_35 rfl ?_
        refine g_callVi (As := [.int (x), .int (y), .int (-1)]) (rest := []) ⟨hx, hb, hml, hown, hts⟩ (C := R_M) (index := 131) (c_M_taken l D k cI n A hn hn2 (d) (cpT d t (cAr n j) 1024) (cpT d mk (cHd n j + 56) 16) (x) (y) (-1)) (cwV 3 hts (gd_V m_548 m_550 m_26 m_33 m_551) rfl rfl rfl hd_M_taken ⟨Nat.le_of_ble_eq_true rfl, Nat.le_of_ble_eq_true rfl⟩) mW_w mX_x hB hP hS (ci := 3) rfl (0) rfl rfl hl.1 rfl (Nat.le_of_ble_eq_true rfl) d_M_make_36 ⟨Nat.zero_le _, Nat.zero_le _⟩ (fun r_ v_ H locs hw hP hS => ?_)
        obtain ⟨hw1, hw2⟩ := hw; have hw1 := hw1.symm; have hw2 := hw2.symm; subst hw1; subst hw2
        refine lv_if_eq (tgt := 45) hx hb d_M_make_39 (by decide) (fun c_39 => ?_) (fun c_39 => ?_)
        · have c_39 := bI_0.mp c_39
          refine lv_aload_n hx hb d_M_make_45 rfl (lv_at hl 0 rfl) ?_
          refine lv_lload hx hb d_M_make_46 (lv_at hl 4 rfl) ?_
          refine g_callVi (As := [.long (ma0)]) (rest := []) ⟨hx, hb, hml, hown, hts⟩ (C := R_M) (index := 135) (c_M_marked l D k cI n A hn hn2 (d) (cpT d t (cAr n j) 1024) (cpT d mk (cHd n j + 56) 16) (ma0)) (cwV 1 hts (gd_V m_552 m_554 m_27 m_33 m_555) rfl rfl rfl hd_M_marked ⟨Nat.le_of_ble_eq_true rfl, Nat.le_of_ble_eq_true rfl⟩) mW_w mX_x hB hP hS (ci := 3) rfl (0) rfl rfl hl.1 rfl (Nat.le_of_ble_eq_true rfl) d_M_make_48 ⟨Nat.zero_le _, Nat.zero_le _⟩ (fun r_ v_ H locs hw hP hS => ?_)
          obtain ⟨hw1, hw2⟩ := hw; have hw1 := hw1.symm; have hw2 := hw2.symm; subst hw1; subst hw2
          refine lv_if_eq (tgt := 57) hx hb d_M_make_51 (by decide) (fun c_51 => ?_) (fun c_51 => ?_)
          · have c_51 := bI_0.mp c_51
            refine lv_iconst (v := nI 0) hx hb d_M_make_57 rfl ?_
            refine lv_istore (lv' := [(9, .int (nI (0))), (0, .ref (k 0)), (1, .int (x)), (2, .int (y)), (3, .long (ty0)), (5, .long (ma0)), (7, .long (at0))]) hx hb d_M_make_58 hl (by decide) rfl (fun ls hl => ?_)
            have lp : ∀ (q : Nat) (i : Nat) (H : Heap) (locs : List Loc) (ls : Array Slot), (i ≤ 8) → (8 + 1 ≤ i + q) → (∀ p, p < i → ¬ frE (cpT d t (cAr n j) 1024) 0 p) → va_P D classes (mW k cI n (mU (d) (cpT d t (cAr n j) 1024) (cpT d mk (cHd n j + 56) 16))) H → va_S A s.heap H locs → lv_has ls 12 [(9, .int (nI (i))), (0, .ref (k 0)), (1, .int (x)), (2, .int (y)), (3, .long (ty0)), (5, .long (ma0)), (7, .long (at0))] → W p l e rm_M_make s m ([.ref (k 0), .int (x), .int (y), .long (ty0), .long (ma0), .long (at0)] : List Value).toArray below meth c H locs 0 0 (MQ below (va_Qi (fun r v => r = (maR n d x y ty0 ma0 at0).1 ∧ mO (maR n d x y ty0 ma0 at0).2 v) (mB D k cI n A) A) ([.ref (k 0), .int (x), .int (y), .long (ty0), .long (ma0), .long (at0)] : List Value).toArray s 0 0 A) (F0 m 60 ls []) := by
              intro q
              induction q with
              | zero =>
                intro i H locs ls hi hq hz hP hS hl
                exact absurd hq (by omega)
              | succ q ih =>
                intro i H locs ls hi hq hz hP hS hl
                refine lv_iload hx hb d_M_make_60 (lv_at hl 0 rfl) ?_
                refine lv_bipush (v := nI 8) hx hb d_M_make_62 rfl ?_
                refine lv_icmp_ge (tgt := 89) hx hb d_M_make_64 (by decide) (fun c_64 => ?_) (fun c_64 => ?_)
                · have hi8 : i = 8 := ge_t hi (by omega) c_64
                  refine lv_iload hx hb d_M_make_89 (lv_at hl 0 rfl) ?_
                  refine lv_bipush (v := nI 8) hx hb d_M_make_91 rfl ?_
                  refine lv_icmp_ne (tgt := 99) hx hb d_M_make_93 (by decide) (fun c9 => absurd (by rw [hi8]) c9) (fun _ => ?_)
                  refine lv_bipush (v := -6) hx hb d_M_make_96 rfl ?_
                  exact g_iret (v := (-6)) hx hb hr hlk mW_w mX_x hB hP hS (by rw [maR, oS_s hsr, cI_f c_12, cI_t (Classical.not_not.mp c_26), cI_f (q := tak d (cAr n j) x.toInt64 y.toInt64 (-1)) (fun z => c_39 (T_tak.mpr z)), cI_f (q := mkU d (cAr n j) ma0 (gT ma0)) (fun z => c_51 (T_mk.mpr z)), cI_t (show loR (frE d (cAr n j)) 8 0 = -1 from by rw [← T_lo (t := t)]; exact loR_no (by rw [hi8] at hz; exact hz))]; exact ⟨rfl, _, _, rfl⟩) d_M_make_98
                · have hik8 : i < 8 := ge_f (by omega) (by omega) c_64
                  refine lv_aload_n hx hb d_M_make_67 rfl (lv_at hl 1 rfl) ?_
                  refine va_get (D := D) (ci := 3) (v := .ref (k 2)) (C := R_M) (T := F_M) (N := 4) hx hb hts (fun w h => .tail _ (fi_M w h)) hown hK hP 0 rfl rfl 2 (by decide) (hts _ (.tail _ m_406)) (fun _ h9 => h9) rfl d_M_make_68 ?_
                  refine lv_sipush (v := nI 128) hx hb d_M_make_71 rfl ?_
                  refine lv_iload hx hb d_M_make_74 (lv_at hl 0 rfl) ?_
                  refine lv_imulC hx hb d_M_make_76 ?_
                  refine lv_z0 ?_
                  refine g_callSi (As := [.ref (k 2), .int (nI (0 + i * 128))]) (rest := []) ⟨hx, hb, hml, hown, hts⟩ (index := 63) (c_M_isFree l D k cI n A hn hn2 (mU (d) (cpT d t (cAr n j) 1024) (cpT d mk (cHd n j + 56) 16)) (2) (by omega) (by omega) (0 + i * 128) (by omega)) (cwS 2 hts (gd_S m_485 m_486 m_33 m_487) rfl rfl rfl hd_M_isFree ⟨Nat.le_of_ble_eq_true rfl, Nat.le_of_ble_eq_true rfl⟩) mW_w mX_x hB hP hS rfl hl.1 rfl (Nat.le_of_ble_eq_true rfl) d_M_make_77 ⟨Nat.zero_le _, Nat.zero_le _⟩ (fun r_ v_ H locs hw hP hS => ?_)
                  obtain ⟨hw1, hw2⟩ := hw; have hw1 : r_ = (bI (isZ (((cpT d t (cAr n j) 1024))) (0 + i * 128) 16)) := hw1; have hw1 := hw1.symm; have hw2 := hw2.symm; subst hw1; subst hw2
                  refine lv_if_ne (tgt := 89) hx hb d_M_make_80 (by decide) (fun c_80 => ?_) (fun c_80 => ?_)
                  · have c_80 := bI_1 c_80
                    refine lv_iload hx hb d_M_make_89 (lv_at hl 0 rfl) ?_
                    refine lv_bipush (v := nI 8) hx hb d_M_make_91 rfl ?_
                    refine lv_icmp_ne (tgt := 99) hx hb d_M_make_93 (by decide) (fun _ => ?_) (fun c9 => absurd c9 (fun z => by have := (nI_eq (by omega) (by decide)).mp z; omega))
                    refine lv_sipush (v := nI 128) hx hb d_M_make_99 rfl ?_
                    refine lv_iload hx hb d_M_make_102 (lv_at hl 0 rfl) ?_
                    refine lv_imulC hx hb d_M_make_104 ?_
                    refine lv_z0 ?_
                    refine lv_istore (lv' := [(10, .int (nI (0 + i * 128))), (9, .int (nI (i))), (0, .ref (k 0)), (1, .int (x)), (2, .int (y)), (3, .long (ty0)), (5, .long (ma0)), (7, .long (at0))]) hx hb d_M_make_105 hl (by decide) rfl (fun ls hl => ?_)
                    refine lv_iconst (v := nI 0) hx hb d_M_make_107 rfl ?_
                    refine lv_istore (lv' := [(11, .int (nI (0))), (10, .int (nI (0 + i * 128))), (9, .int (nI (i))), (0, .ref (k 0)), (1, .int (x)), (2, .int (y)), (3, .long (ty0)), (5, .long (ma0)), (7, .long (at0))]) hx hb d_M_make_108 hl (by decide) rfl (fun ls hl => ?_)
                    have hP : va_P D classes (mW k cI n (mU (d) (clr (cpT d t (cAr n j) 1024) (0 + i * 128) 0) (cpT d mk (cHd n j + 56) 16))) H := by rw [clr_0]; exact hP
                    have lp2 : ∀ (q2 : Nat) (g : Nat) (H : Heap) (locs : List Loc) (ls : Array Slot), (g ≤ 128) → (128 + 1 ≤ g + q2) → va_P D classes (mW k cI n (mU (d) (clr (cpT d t (cAr n j) 1024) (0 + i * 128) g) (cpT d mk (cHd n j + 56) 16))) H → va_S A s.heap H locs → lv_has ls 12 [(11, .int (nI (g))), (10, .int (nI (0 + i * 128))), (9, .int (nI (i))), (0, .ref (k 0)), (1, .int (x)), (2, .int (y)), (3, .long (ty0)), (5, .long (ma0)), (7, .long (at0))] → W p l e rm_M_make s m ([.ref (k 0), .int (x), .int (y), .long (ty0), .long (ma0), .long (at0)] : List Value).toArray below meth c H locs 0 0 (MQ below (va_Qi (fun r v => r = (maR n d x y ty0 ma0 at0).1 ∧ mO (maR n d x y ty0 ma0 at0).2 v) (mB D k cI n A) A) ([.ref (k 0), .int (x), .int (y), .long (ty0), .long (ma0), .long (at0)] : List Value).toArray s 0 0 A) (F0 m 110 ls []) := by
                      intro q2
                      induction q2 with
                      | zero =>
                        intro g H locs ls hi hq hP hS hl
                        exact absurd hq (by omega)
                      | succ q2 ih2 =>
                        intro g H locs ls hi hq hP hS hl
                        refine lv_iload hx hb d_M_make_110 (lv_at hl 0 rfl) ?_
                        refine lv_sipush (v := nI 128) hx hb d_M_make_112 rfl ?_
                        refine lv_icmp_ge (tgt := 135) hx hb d_M_make_115 (by decide) (fun c_115 => ?_) (fun c_115 => ?_)
                        · have hik : g = 128 := ge_t hi (by omega) c_115
                          rw [hik] at hP
                          refine lv_aload_n hx hb d_M_make_135 rfl (lv_at hl 3 rfl) ?_
                          refine va_get (D := D) (ci := 3) (v := .ref (k 2)) (C := R_M) (T := F_M) (N := 4) hx hb hts (fun w h => .tail _ (fi_M w h)) hown hK hP 0 rfl rfl 2 (by decide) (hts _ (.tail _ m_406)) (fun _ h9 => h9) rfl d_M_make_136 ?_
                          refine lv_iload hx hb d_M_make_139 (lv_at hl 1 rfl) ?_
                          refine lv_lload_n hx hb d_M_make_141 rfl (lv_at hl 6 rfl) ?_
                          refine g_callSv (As := [.ref (k 2), .int (nI (0 + i * 128)), .long (ty0)]) (rest := []) ⟨hx, hb, hml, hown, hts⟩ (index := 120) (c_M_putGuid l D k cI n A hn hn2 (mU (d) (clr (cpT d t (cAr n j) 1024) (0 + i * 128) 128) (cpT d mk (cHd n j + 56) 16)) (2) (by omega) (by omega) (0 + i * 128) (ty0) (by omega)) (cwS 3 hts (gd_S m_525 m_526 m_33 m_527) rfl rfl rfl hd_M_putGuid ⟨Nat.le_of_ble_eq_true rfl, Nat.le_of_ble_eq_true rfl⟩) mW_w mX_x hB hP hS rfl hl.1 rfl (Nat.le_of_ble_eq_true rfl) d_M_make_142 ⟨Nat.zero_le _, Nat.zero_le _⟩ (fun v_ H locs hw hP hS => ?_)
                          have hw := hw.symm; subst hw
                          have hP : va_P D classes (mW k cI n (mU (d) (guid (((clr (cpT d t (cAr n j) 1024) (0 + i * 128) 128))) (0 + i * 128) ty0) (cpT d mk (cHd n j + 56) 16))) H := by rw [mU_2] at hP; exact hP
                          refine lv_aload_n hx hb d_M_make_145 rfl (lv_at hl 3 rfl) ?_
                          refine va_get (D := D) (ci := 3) (v := .ref (k 2)) (C := R_M) (T := F_M) (N := 4) hx hb hts (fun w h => .tail _ (fi_M w h)) hown hK hP 0 rfl rfl 2 (by decide) (hts _ (.tail _ m_406)) (fun _ h9 => h9) rfl d_M_make_146 ?_
                          refine lv_iload hx hb d_M_make_149 (lv_at hl 1 rfl) ?_
                          refine lv_bipush (v := nI 16) hx hb d_M_make_151 rfl ?_
                          refine lv_iaddN hx hb d_M_make_153 ?_
                          refine lv_lload hx hb d_M_make_154 (lv_at hl 7 rfl) ?_
                          refine g_callSv (As := [.ref (k 2), .int (nI ((0 + i * 128) + 16)), .long (ma0)]) (rest := []) ⟨hx, hb, hml, hown, hts⟩ (index := 120) (c_M_putGuid l D k cI n A hn hn2 (mU (d) (guid (((clr (cpT d t (cAr n j) 1024) (0 + i * 128) 128))) (0 + i * 128) ty0) (cpT d mk (cHd n j + 56) 16)) (2) (by omega) (by omega) ((0 + i * 128) + 16) (ma0) (by omega)) (cwS 3 hts (gd_S m_525 m_526 m_33 m_527) rfl rfl rfl hd_M_putGuid ⟨Nat.le_of_ble_eq_true rfl, Nat.le_of_ble_eq_true rfl⟩) mW_w mX_x hB hP hS rfl hl.1 rfl (Nat.le_of_ble_eq_true rfl) d_M_make_156 ⟨Nat.zero_le _, Nat.zero_le _⟩ (fun v_ H locs hw hP hS => ?_)
                          have hw := hw.symm; subst hw
                          have hP : va_P D classes (mW k cI n (mU (d) (guid (((guid (((clr (cpT d t (cAr n j) 1024) (0 + i * 128) 128))) (0 + i * 128) ty0))) ((0 + i * 128) + 16) ma0) (cpT d mk (cHd n j + 56) 16))) H := by rw [mU_2] at hP; exact hP
                          refine lv_aload_n hx hb d_M_make_159 rfl (lv_at hl 3 rfl) ?_
                          refine va_get (D := D) (ci := 3) (v := .ref (k 2)) (C := R_M) (T := F_M) (N := 4) hx hb hts (fun w h => .tail _ (fi_M w h)) hown hK hP 0 rfl rfl 2 (by decide) (hts _ (.tail _ m_406)) (fun _ h9 => h9) rfl d_M_make_160 ?_
                          refine lv_iload hx hb d_M_make_163 (lv_at hl 1 rfl) ?_
                          refine lv_bipush (v := nI 32) hx hb d_M_make_165 rfl ?_
                          refine lv_iaddN hx hb d_M_make_167 ?_
                          refine lv_bipush (v := nI 8) hx hb d_M_make_168 rfl ?_
                          refine lv_iload_n hx hb d_M_make_170 rfl (lv_at hl 4 rfl) ?_
                          refine lv_i2l hx hb d_M_make_171 rfl ?_
                          refine g_callSv (As := [.ref (k 2), .int (nI ((0 + i * 128) + 32)), .int (nI (8)), .long ((x).toInt64)]) (rest := []) ⟨hx, hb, hml, hown, hts⟩ (index := 29) (c_M_put l D k cI n A hn hn2 (mU (d) (guid (((guid (((clr (cpT d t (cAr n j) 1024) (0 + i * 128) 128))) (0 + i * 128) ty0))) ((0 + i * 128) + 16) ma0) (cpT d mk (cHd n j + 56) 16)) (2) (by omega) (by omega) ((0 + i * 128) + 32) (8) ((x).toInt64) (by omega) (by omega)) (cwS 4 hts (gd_S m_513 m_514 m_33 m_515) rfl rfl rfl hd_M_put ⟨Nat.le_of_ble_eq_true rfl, Nat.le_of_ble_eq_true rfl⟩) mW_w mX_x hB hP hS rfl hl.1 rfl (Nat.le_of_ble_eq_true rfl) d_M_make_172 ⟨Nat.zero_le _, Nat.zero_le _⟩ (fun v_ H locs hw hP hS => ?_)
                          have hw := hw.symm; subst hw
                          have hP : va_P D classes (mW k cI n (mU (d) (setN (((guid (((guid (((clr (cpT d t (cAr n j) 1024) (0 + i * 128) 128))) (0 + i * 128) ty0))) ((0 + i * 128) + 16) ma0))) ((0 + i * 128) + 32) 8 ((x).toInt64)) (cpT d mk (cHd n j + 56) 16))) H := by rw [mU_2] at hP; exact hP
                          refine lv_aload_n hx hb d_M_make_175 rfl (lv_at hl 3 rfl) ?_
                          refine va_get (D := D) (ci := 3) (v := .ref (k 2)) (C := R_M) (T := F_M) (N := 4) hx hb hts (fun w h => .tail _ (fi_M w h)) hown hK hP 0 rfl rfl 2 (by decide) (hts _ (.tail _ m_406)) (fun _ h9 => h9) rfl d_M_make_176 ?_
                          refine lv_iload hx hb d_M_make_179 (lv_at hl 1 rfl) ?_
                          refine lv_bipush (v := nI 40) hx hb d_M_make_181 rfl ?_
                          refine lv_iaddN hx hb d_M_make_183 ?_
                          refine lv_bipush (v := nI 8) hx hb d_M_make_184 rfl ?_
                          refine lv_iload_n hx hb d_M_make_186 rfl (lv_at hl 5 rfl) ?_
                          refine lv_i2l hx hb d_M_make_187 rfl ?_
                          refine g_callSv (As := [.ref (k 2), .int (nI ((0 + i * 128) + 40)), .int (nI (8)), .long ((y).toInt64)]) (rest := []) ⟨hx, hb, hml, hown, hts⟩ (index := 29) (c_M_put l D k cI n A hn hn2 (mU (d) (setN (((guid (((guid (((clr (cpT d t (cAr n j) 1024) (0 + i * 128) 128))) (0 + i * 128) ty0))) ((0 + i * 128) + 16) ma0))) ((0 + i * 128) + 32) 8 ((x).toInt64)) (cpT d mk (cHd n j + 56) 16)) (2) (by omega) (by omega) ((0 + i * 128) + 40) (8) ((y).toInt64) (by omega) (by omega)) (cwS 4 hts (gd_S m_513 m_514 m_33 m_515) rfl rfl rfl hd_M_put ⟨Nat.le_of_ble_eq_true rfl, Nat.le_of_ble_eq_true rfl⟩) mW_w mX_x hB hP hS rfl hl.1 rfl (Nat.le_of_ble_eq_true rfl) d_M_make_188 ⟨Nat.zero_le _, Nat.zero_le _⟩ (fun v_ H locs hw hP hS => ?_)
                          have hw := hw.symm; subst hw
                          have hP : va_P D classes (mW k cI n (mU (d) (setN (((setN (((guid (((guid (((clr (cpT d t (cAr n j) 1024) (0 + i * 128) 128))) (0 + i * 128) ty0))) ((0 + i * 128) + 16) ma0))) ((0 + i * 128) + 32) 8 ((x).toInt64)))) ((0 + i * 128) + 40) 8 ((y).toInt64)) (cpT d mk (cHd n j + 56) 16))) H := by rw [mU_2] at hP; exact hP
                          refine lv_aload_n hx hb d_M_make_191 rfl (lv_at hl 3 rfl) ?_
                          refine va_get (D := D) (ci := 3) (v := .ref (k 2)) (C := R_M) (T := F_M) (N := 4) hx hb hts (fun w h => .tail _ (fi_M w h)) hown hK hP 0 rfl rfl 2 (by decide) (hts _ (.tail _ m_406)) (fun _ h9 => h9) rfl d_M_make_192 ?_
                          refine lv_iload hx hb d_M_make_195 (lv_at hl 1 rfl) ?_
                          refine lv_bipush (v := nI 48) hx hb d_M_make_197 rfl ?_
                          refine lv_iaddN hx hb d_M_make_199 ?_
                          refine lv_bipush (v := nI 8) hx hb d_M_make_200 rfl ?_
                          refine lv_lload hx hb d_M_make_202 (lv_at hl 8 rfl) ?_
                          refine g_callSv (As := [.ref (k 2), .int (nI ((0 + i * 128) + 48)), .int (nI (8)), .long (at0)]) (rest := []) ⟨hx, hb, hml, hown, hts⟩ (index := 29) (c_M_put l D k cI n A hn hn2 (mU (d) (setN (((setN (((guid (((guid (((clr (cpT d t (cAr n j) 1024) (0 + i * 128) 128))) (0 + i * 128) ty0))) ((0 + i * 128) + 16) ma0))) ((0 + i * 128) + 32) 8 ((x).toInt64)))) ((0 + i * 128) + 40) 8 ((y).toInt64)) (cpT d mk (cHd n j + 56) 16)) (2) (by omega) (by omega) ((0 + i * 128) + 48) (8) (at0) (by omega) (by omega)) (cwS 4 hts (gd_S m_513 m_514 m_33 m_515) rfl rfl rfl hd_M_put ⟨Nat.le_of_ble_eq_true rfl, Nat.le_of_ble_eq_true rfl⟩) mW_w mX_x hB hP hS rfl hl.1 rfl (Nat.le_of_ble_eq_true rfl) d_M_make_204 ⟨Nat.zero_le _, Nat.zero_le _⟩ (fun v_ H locs hw hP hS => ?_)
                          have hw := hw.symm; subst hw
                          have hP : va_P D classes (mW k cI n (mU (d) (setN (((setN (((setN (((guid (((guid (((clr (cpT d t (cAr n j) 1024) (0 + i * 128) 128))) (0 + i * 128) ty0))) ((0 + i * 128) + 16) ma0))) ((0 + i * 128) + 32) 8 ((x).toInt64)))) ((0 + i * 128) + 40) 8 ((y).toInt64)))) ((0 + i * 128) + 48) 8 at0) (cpT d mk (cHd n j + 56) 16))) H := by rw [mU_2] at hP; exact hP
                          refine lv_aload_n hx hb d_M_make_207 rfl (lv_at hl 3 rfl) ?_
                          refine g_callVv (As := []) (rest := []) ⟨hx, hb, hml, hown, hts⟩ (C := R_M) (index := 124) (c_M_writeTable l D k cI n A hn hn2 (d) (setN (((setN (((setN (((guid (((guid (((clr (cpT d t (cAr n j) 1024) (0 + i * 128) 128))) (0 + i * 128) ty0))) ((0 + i * 128) + 16) ma0))) ((0 + i * 128) + 32) 8 ((x).toInt64)))) ((0 + i * 128) + 40) 8 ((y).toInt64)))) ((0 + i * 128) + 48) 8 at0) (cpT d mk (cHd n j + 56) 16) ) (cwV 0 hts (gd_V m_530 m_532 m_23 m_33 m_533) rfl rfl rfl hd_M_writeTable ⟨Nat.le_of_ble_eq_true rfl, Nat.le_of_ble_eq_true rfl⟩) mW_w mX_x hB hP hS (ci := 3) rfl (0) rfl rfl hl.1 rfl (Nat.le_of_ble_eq_true rfl) d_M_make_208 ⟨Nat.zero_le _, Nat.zero_le _⟩ (fun v_ H locs hw hP hS => ?_)
                          have hw := hw.symm; subst hw
                          refine lv_iload hx hb d_M_make_211 (lv_at hl 2 rfl) ?_
                          exact g_iret (v := (nI (i))) hx hb hr hlk mW_w mX_x hB hP hS (by rw [maR, oS_s hsr, cI_f c_12, cI_t (Classical.not_not.mp c_26), cI_f (q := tak d (cAr n j) x.toInt64 y.toInt64 (-1)) (fun z => c_39 (T_tak.mpr z)), cI_f (q := mkU d (cAr n j) ma0 (gT ma0)) (fun z => c_51 (T_mk.mpr z)), show loR (frE d (cAr n j)) 8 0 = nI i from by rw [← T_lo (t := t)]; exact loR_at hik8 hz c_80, cI_f (nI_m1n hik8), cl_nI (by omega)]; exact ⟨rfl, _, _, congrArg (fun w => mU w (mkE (cpT d t (cAr n j) 1024) (0 + i * 128) x y ty0 ma0 at0) (cpT d mk (cHd n j + 56) 16)) (wT_chg (T := mkE (cpT d t (cAr n j) 1024) (0 + i * 128) x y ty0 ma0 at0) (d1 := mkE d (cAr n j + i * 128) x y ty0 ma0 at0) hn hj (fun p hp => sh_mkE (by omega) (cpT_at hp)) (fun p h9 => mkE_out (by omega)))⟩) d_M_make_213
                        · have hik : g < 128 := ge_f (by omega) (by omega) c_115
                          refine lv_aload_n hx hb d_M_make_118 rfl (lv_at hl 3 rfl) ?_
                          refine va_get (D := D) (ci := 3) (v := .ref (k 2)) (C := R_M) (T := F_M) (N := 4) hx hb hts (fun w h => .tail _ (fi_M w h)) hown hK hP 0 rfl rfl 2 (by decide) (hts _ (.tail _ m_406)) (fun _ h9 => h9) rfl d_M_make_119 ?_
                          refine lv_iload hx hb d_M_make_122 (lv_at hl 1 rfl) ?_
                          refine lv_iload hx hb d_M_make_124 (lv_at hl 0 rfl) ?_
                          refine lv_iaddN hx hb d_M_make_126 ?_
                          refine lv_iconst (v := nI 0) hx hb d_M_make_127 rfl ?_
                          refine m_iast hx hb hB hP hS (i := 2) (by decide) (by decide) (a := (0 + i * 128) + g) (y := 0) (rfl) (by omega) d_M_make_128 (fun H locs hP hS => ?_)
                          have hP : va_P D classes (mW k cI n (mU (d) (va_up (clr (cpT d t (cAr n j) 1024) (0 + i * 128) g) ((0 + i * 128) + g) 0) (cpT d mk (cHd n j + 56) 16))) H := by rw [mU_2] at hP; exact hP
                          rw [clr_s] at hP
                          refine lv_iinc (v := (nI (g + 1))) (lv' := [(11, .int (nI (g + 1))), (10, .int (nI (0 + i * 128))), (9, .int (nI (i))), (0, .ref (k 0)), (1, .int (x)), (2, .int (y)), (3, .long (ty0)), (5, .long (ma0)), (7, .long (at0))]) hx hb d_M_make_129 hl (k := 0) rfl (nI_add _ _) (by decide) rfl (fun ls hl => ?_)
                          refine lv_goto (tgt := 110) hx hb d_M_make_132 (by decide) ?_
                          exact ih2 (g + 1) _ _ _ (by omega) (by omega) hP hS (lv_sub hl [0, 1, 2, 3, 4, 5, 6, 7, 8] rfl)
                    exact lp2 (128 + 1) 0 _ _ _ (Nat.zero_le _) (by omega) hP hS (lv_sub hl [0, 1, 2, 3, 4, 5, 6, 7, 8] rfl)
                  · have c_80 := bI_0.mp c_80
                    refine lv_iinc (v := (nI (i + 1))) (lv' := [(9, .int (nI (i + 1))), (0, .ref (k 0)), (1, .int (x)), (2, .int (y)), (3, .long (ty0)), (5, .long (ma0)), (7, .long (at0))]) hx hb d_M_make_83 hl (k := 0) rfl (nI_add _ _) (by decide) rfl (fun ls hl => ?_)
                    refine lv_goto (tgt := 60) hx hb d_M_make_86 (by decide) ?_
                    exact ih (i + 1) _ _ _ (by omega) (by omega) (lt_a hz c_80) hP hS (lv_sub hl [0, 1, 2, 3, 4, 5, 6] rfl)
            exact lp (8 + 1) 0 _ _ _ (Nat.zero_le _) (by omega) lt_0 hP hS (lv_sub hl [0, 1, 2, 3, 4, 5, 6] rfl)
          · have c_51 := bI_1 c_51
            refine lv_bipush (v := -5) hx hb d_M_make_54 rfl ?_
            exact g_iret (v := (-5)) hx hb hr hlk mW_w mX_x hB hP hS (by rw [maR, oS_s hsr, cI_f c_12, cI_t (Classical.not_not.mp c_26), cI_f (q := tak d (cAr n j) x.toInt64 y.toInt64 (-1)) (fun z => c_39 (T_tak.mpr z)), cI_t (T_mk.mp c_51)]; exact ⟨rfl, _, _, rfl⟩) d_M_make_56
        · have c_39 := bI_1 c_39
          refine lv_bipush (v := -4) hx hb d_M_make_42 rfl ?_
          exact g_iret (v := (-4)) hx hb hr hlk mW_w mX_x hB hP hS (by rw [maR, oS_s hsr, cI_f c_12, cI_t (Classical.not_not.mp c_26), cI_t (T_tak.mp c_39)]; exact ⟨rfl, _, _, rfl⟩) d_M_make_44
      · have c_26 := bI_1 c_26
        refine lv_bipush (v := -3) hx hb d_M_make_29 rfl ?_
        exact g_iret (v := (-3)) hx hb hr hlk mW_w mX_x hB hP hS (by rw [maR, oS_s hsr, cI_f c_12, cI_f c_26]; exact ⟨rfl, _, _, rfl⟩) d_M_make_31
    · have c_12 := (lg_cmp_eq _ _).mp c_12
      refine lv_bipush (v := -2) hx hb d_M_make_15 rfl ?_
      exact g_iret (v := (-2)) hx hb hr hlk mW_w mX_x hB hP hS (by rw [maR, oS_s hsr, cI_t c_12]; exact ⟨rfl, _, _, rfl⟩) d_M_make_17
  · refine lv_if_ne (tgt := 9) hx hb d_M_make_4 (by decide) (fun c9 => absurd (by decide) c9) (fun _ => ?_)
    refine lv_iconst (v := -1) hx hb d_M_make_7 rfl ?_
    exact g_iret (v := (-1)) hx hb hr hlk mW_w mX_x hB hP hS (by rw [maR, oS_n hsr]; exact ⟨rfl, _, _, rfl⟩) d_M_make_8
abbrev w_M_repair : List Cond := .code y_M_repair b_M_repair 6 (some .int) :: ALL
abbrev rm_M_repair : Room := { frames := 6, cells := 0, slots := 0, locals := 140 }
theorem hd_M_repair : y_M_repair.cls = R_M ∧ y_M_repair.cls ≠ "java/lang/invoke/MethodHandle" ∧ y_M_repair.cls ≠ "java/lang/invoke/VarHandle" ∧ (parseMethodDescriptor y_M_repair.desc).map (fun d => d.parameters.length) = some 0 := by decide +kernel
set_option maxHeartbeats 4000000 in
set_option maxRecDepth 100000 in
theorem c_M_repair (l : Launch) (D : va_G) (k : Nat → Nat) (cI : Nat → ClassId) (n : Nat) (A : Nat → Prop) (hn : 12 ≤ n) (hn2 : n ≤ 24) (d t mk : Nat → BitVec 8)  : Met l y_M_repair w_M_repair rm_M_repair (va_Pc [.ref (k 0)] (mB D k cI n A (mU d t mk))) (va_Qi (fun r v => r = (reR n d).1 ∧ mO (reR n d).2 v) (mB D k cI n A) A) 0 0 A := by
  refine g_ofW (cc := b_M_repair) (maxL := 6) (ret := (some .int)) (by decide) rfl (Nat.le_of_ble_eq_true rfl) ?_
  intro p e s m below meth c ls hx hb hml hr hlk hown hts hnm hB hl
  have hown : s.vm.findClass R_M = some m.cls := hown
  have hP := hB.1
  have hK := hB.2.1
  obtain ⟨H, hH⟩ : ∃ H, H = s.heap := ⟨_, rfl⟩
  have hS : va_S A s.heap H [] := by rw [hH]; exact va_S.rf
  rw [← hH] at hP ⊢
  have hl : lv_has ls 6 [(0, .ref (k 0))] := hl
  have z1 : mSz 1 = 12288 := rfl
  have z2 : mSz 2 = 1024 := rfl
  have z3 : mSz 3 = 16 := rfl
  have hHd0 := cHd_le (j := 0) hn (by decide)
  have hHd1 := cHd_le (j := 1) hn (by decide)
  have hAr0 := cAr_le (j := 0) hn (by decide)
  have hAr1 := cAr_le (j := 1) hn (by decide)
  refine lv_aload_n hx hb d_M_repair_0 rfl (lv_at hl 0 rfl) ?_
  refine g_callVi (As := []) (rest := []) ⟨hx, hb, hml, hown, hts⟩ (C := R_M) (index := 127) (c_M_take l D k cI n A hn hn2 (d) (t) (mk) ) (cwV 0 hts (gd_V m_543 m_545 m_25 m_33 m_546) rfl rfl rfl hd_M_take ⟨Nat.le_of_ble_eq_true rfl, Nat.le_of_ble_eq_true rfl⟩) mW_w mX_x hB hP hS (ci := 3) rfl (0) rfl rfl hl.1 rfl (Nat.le_of_ble_eq_true rfl) d_M_repair_1 ⟨Nat.zero_le _, Nat.zero_le _⟩ (fun r_ v_ H locs hw hP hS => ?_)
  rcases hw with ⟨j, hj, hsr, rfl, rfl⟩ | ⟨hsr, rfl, rfl⟩
  · have hHd := cHd_le hn hj
    have hAr := cAr_le hn hj
    refine lv_if_ne (tgt := 9) hx hb d_M_repair_4 (by decide) (fun _ => ?_) (fun c9 => absurd c9 (by decide))
    refine lv_aload_n hx hb d_M_repair_9 rfl (lv_at hl 0 rfl) ?_
    refine lv_iconst (v := nI 0) hx hb d_M_repair_10 rfl ?_
    refine g_callVi (As := [.int (nI (0))]) (rest := []) ⟨hx, hb, hml, hown, hts⟩ (C := R_M) (index := 103) (c_M_faultJ l D k cI n A hn hn2 (d) (cpT d t (cAr n j) 1024) (cpT d mk (cHd n j + 56) 16) (0) (by omega)) (cwV 1 hts (gd_V m_508 m_454 m_455 m_33 m_456) rfl rfl rfl hd_M_fault ⟨Nat.le_of_ble_eq_true rfl, Nat.le_of_ble_eq_true rfl⟩) mW_w mX_x hB hP hS (ci := 3) rfl (0) rfl rfl hl.1 rfl (Nat.le_of_ble_eq_true rfl) d_M_repair_11 ⟨Nat.zero_le _, Nat.zero_le _⟩ (fun r_ v_ H locs hw hP hS => ?_)
    obtain ⟨hw1, hw2⟩ := hw; have hw1 := hw1.symm; have hw2 := hw2.symm; subst hw1; subst hw2
    refine lv_if_eq (tgt := 21) hx hb d_M_repair_14 (by decide) (fun c_14 => ?_) (fun c_14 => ?_)
    · refine lv_iconst (v := nI 0) hx hb d_M_repair_21 rfl ?_
      refine lv_istore_n (lv' := [(1, .int (nI (0))), (0, .ref (k 0))]) hx hb d_M_repair_22 rfl hl (by decide) rfl (fun ls hl => ?_)
      refine lv_aload_n hx hb d_M_repair_23 rfl (lv_at hl 1 rfl) ?_
      refine lv_iconst (v := nI 1) hx hb d_M_repair_24 rfl ?_
      refine g_callVi (As := [.int (nI (1))]) (rest := []) ⟨hx, hb, hml, hown, hts⟩ (C := R_M) (index := 103) (c_M_faultJ l D k cI n A hn hn2 (d) (cpT d t (cAr n j) 1024) (cpT d mk (cHd n j + 56) 16) (1) (by omega)) (cwV 1 hts (gd_V m_508 m_454 m_455 m_33 m_456) rfl rfl rfl hd_M_fault ⟨Nat.le_of_ble_eq_true rfl, Nat.le_of_ble_eq_true rfl⟩) mW_w mX_x hB hP hS (ci := 3) rfl (0) rfl rfl hl.1 rfl (Nat.le_of_ble_eq_true rfl) d_M_repair_25 ⟨Nat.zero_le _, Nat.zero_le _⟩ (fun r_ v_ H locs hw hP hS => ?_)
      obtain ⟨hw1, hw2⟩ := hw; have hw1 := hw1.symm; have hw2 := hw2.symm; subst hw1; subst hw2
      refine lv_if_eq (tgt := 35) hx hb d_M_repair_28 (by decide) (fun c_28 => ?_) (fun c_28 => ?_)
      · refine lv_iconst (v := nI 0) hx hb d_M_repair_35 rfl ?_
        refine lv_istore_n (lv' := [(2, .int (nI (0))), (1, .int (nI (0))), (0, .ref (k 0))]) hx hb d_M_repair_36 rfl hl (by decide) rfl (fun ls hl => ?_)
        refine lv_aload_n hx hb d_M_repair_37 rfl (lv_at hl 2 rfl) ?_
        refine va_get (D := D) (ci := 3) (v := .ref (k 1)) (C := R_M) (T := F_M) (N := 4) hx hb hts (fun w h => .tail _ (fi_M w h)) hown hK hP 0 rfl rfl 1 (by decide) (hts _ (.tail _ m_405)) (fun _ h9 => h9) rfl d_M_repair_38 ?_
        refine lv_aload_n hx hb d_M_repair_41 rfl (lv_at hl 2 rfl) ?_
        refine lv_iconst (v := nI 0) hx hb d_M_repair_42 rfl ?_
        refine g_callVi (As := [.int (nI (0))]) (rest := [.ref (k 1)]) ⟨hx, hb, hml, hown, hts⟩ (C := R_M) (index := 96) (c_M_arrayAt l D k cI n A hn hn2 (d) (cpT d t (cAr n j) 1024) (cpT d mk (cHd n j + 56) 16) (0) (by omega)) (cwV 1 hts (gd_V m_477 m_479 m_19 m_33 m_480) rfl rfl rfl hd_M_arrayAt ⟨Nat.le_of_ble_eq_true rfl, Nat.le_of_ble_eq_true rfl⟩) mW_w mX_x hB hP hS (ci := 3) rfl (0) rfl rfl hl.1 rfl (Nat.le_of_ble_eq_true rfl) d_M_repair_43 ⟨Nat.zero_le _, Nat.zero_le _⟩ (fun r_ v_ H locs hw hP hS => ?_)
        obtain ⟨hw1, hw2⟩ := hw; have hw1 := hw1.symm; have hw2 := hw2.symm; subst hw1; subst hw2
        refine lv_aload_n hx hb d_M_repair_46 rfl (lv_at hl 2 rfl) ?_
        refine va_get (D := D) (ci := 3) (v := .ref (k 1)) (C := R_M) (T := F_M) (N := 4) hx hb hts (fun w h => .tail _ (fi_M w h)) hown hK hP 0 rfl rfl 1 (by decide) (hts _ (.tail _ m_405)) (fun _ h9 => h9) rfl d_M_repair_47 ?_
        refine lv_aload_n hx hb d_M_repair_50 rfl (lv_at hl 2 rfl) ?_
        refine lv_iconst (v := nI 1) hx hb d_M_repair_51 rfl ?_
        refine g_callVi (As := [.int (nI (1))]) (rest := [.ref (k 1), .int (nI (cAr n 0)), .ref (k 1)]) ⟨hx, hb, hml, hown, hts⟩ (C := R_M) (index := 96) (c_M_arrayAt l D k cI n A hn hn2 (d) (cpT d t (cAr n j) 1024) (cpT d mk (cHd n j + 56) 16) (1) (by omega)) (cwV 1 hts (gd_V m_477 m_479 m_19 m_33 m_480) rfl rfl rfl hd_M_arrayAt ⟨Nat.le_of_ble_eq_true rfl, Nat.le_of_ble_eq_true rfl⟩) mW_w mX_x hB hP hS (ci := 3) rfl (0) rfl rfl hl.1 rfl (Nat.le_of_ble_eq_true rfl) d_M_repair_52 ⟨Nat.zero_le _, Nat.zero_le _⟩ (fun r_ v_ H locs hw hP hS => ?_)
        obtain ⟨hw1, hw2⟩ := hw; have hw1 := hw1.symm; have hw2 := hw2.symm; subst hw1; subst hw2
        refine lv_sipush (v := nI 1024) hx hb d_M_repair_55 rfl ?_
        refine g_callSi (As := [.ref (k 1), .int (nI (cAr n 0)), .ref (k 1), .int (nI (cAr n 1)), .int (nI (1024))]) (rest := []) ⟨hx, hb, hml, hown, hts⟩ (index := 78) (c_M_same l D k cI n A hn hn2 (mU (d) (cpT d t (cAr n j) 1024) (cpT d mk (cHd n j + 56) 16)) (1) (by omega) (by omega) (1) (by omega) (by omega) (cAr n 0) (cAr n 1) (1024) (by omega) (by omega)) (cwS 5 hts (gd_S m_501 m_502 m_33 m_503) rfl rfl rfl hd_M_same ⟨Nat.le_of_ble_eq_true rfl, Nat.le_of_ble_eq_true rfl⟩) mW_w mX_x hB hP hS rfl hl.1 rfl (Nat.le_of_ble_eq_true rfl) d_M_repair_58 ⟨Nat.zero_le _, Nat.zero_le _⟩ (fun r_ v_ H locs hw hP hS => ?_)
        obtain ⟨hw1, hw2⟩ := hw; have hw1 : r_ = (bI (alk (d) (d) (cAr n 0) (cAr n 1) 1024)) := hw1; have hw1 := hw1.symm; have hw2 := hw2.symm; subst hw1; subst hw2
        refine lv_if_eq (tgt := 100) hx hb d_M_repair_61 (by decide) (fun c_61 => ?_) (fun c_61 => ?_)
        · have c_61 := bI_0.mp c_61
          refine lv_iconst (v := nI 0) hx hb d_M_repair_100 rfl ?_
          refine lv_istore_n (lv' := [(3, .int (nI (0))), (2, .int (nI (0))), (1, .int (nI (0))), (0, .ref (k 0))]) hx hb d_M_repair_101 rfl hl (by decide) rfl (fun ls hl => ?_)
          refine lv_iload_n hx hb d_M_repair_102 rfl (lv_at hl 2 rfl) ?_
          refine lv_if_ne (tgt := 118) hx hb d_M_repair_103 (by decide) (fun c9 => absurd (by decide) c9) (fun _ => ?_)
          refine lv_iload_n hx hb d_M_repair_106 rfl (lv_at hl 1 rfl) ?_
          refine lv_if_ne (tgt := 118) hx hb d_M_repair_107 (by decide) (fun c9 => absurd (by decide) c9) (fun _ => ?_)
          refine lv_iload_n hx hb d_M_repair_110 rfl (lv_at hl 0 rfl) ?_
          refine lv_if_ne (tgt := 118) hx hb d_M_repair_111 (by decide) (fun c9 => absurd (by decide) c9) (fun _ => ?_)
          refine lv_iconst (v := nI 1) hx hb d_M_repair_114 rfl ?_
          refine lv_goto (tgt := 119) hx hb d_M_repair_115 (by decide) ?_
          refine lv_istore (lv' := [(4, .int (nI (1))), (3, .int (nI (0))), (2, .int (nI (0))), (1, .int (nI (0))), (0, .ref (k 0))]) hx hb d_M_repair_119 hl (by decide) rfl (fun ls hl => ?_)
          refine lv_aload_n hx hb d_M_repair_121 rfl (lv_at hl 4 rfl) ?_
          refine g_callVi (As := []) (rest := []) ⟨hx, hb, hml, hown, hts⟩ (C := R_M) (index := 142) (c_M_guard l D k cI n A hn hn2 (d) (cpT d t (cAr n j) 1024) (cpT d mk (cHd n j + 56) 16) ) (cwV 0 hts (gd_V m_576 m_447 m_448 m_33 m_449) rfl rfl rfl hd_M_guard ⟨Nat.le_of_ble_eq_true rfl, Nat.le_of_ble_eq_true rfl⟩) mW_w mX_x hB hP hS (ci := 3) rfl (0) rfl rfl hl.1 rfl (Nat.le_of_ble_eq_true rfl) d_M_repair_122 ⟨Nat.zero_le _, Nat.zero_le _⟩ (fun r_ v_ H locs hw hP hS => ?_)
          obtain ⟨hw1, hw2⟩ := hw; have hw1 := hw1.symm; have hw2 := hw2.symm; subst hw1; subst hw2
          refine lv_if_eq (tgt := 132) hx hb d_M_repair_125 (by decide) (fun c_125 => ?_) (fun c_125 => ?_)
          · have c_125 := bI_0.mp c_125
            refine lv_iconst (v := nI 1) hx hb d_M_repair_132 rfl ?_
            refine lv_iload_n hx hb d_M_repair_133 rfl (lv_at hl 3 rfl) ?_
            refine lv_if_eq (tgt := 141) hx hb d_M_repair_134 (by decide) (fun _ => ?_) (fun c9 => absurd (by decide) c9)
            refine lv_iconst (v := nI 0) hx hb d_M_repair_141 rfl ?_
            refine lv_iaddN hx hb d_M_repair_142 ?_
            refine lv_iload_n hx hb d_M_repair_143 rfl (lv_at hl 2 rfl) ?_
            refine lv_if_eq (tgt := 151) hx hb d_M_repair_144 (by decide) (fun _ => ?_) (fun c9 => absurd (by decide) c9)
            refine lv_iconst (v := nI 0) hx hb d_M_repair_151 rfl ?_
            refine lv_iaddN hx hb d_M_repair_152 ?_
            refine lv_iload hx hb d_M_repair_153 (lv_at hl 0 rfl) ?_
            refine lv_if_eq (tgt := 163) hx hb d_M_repair_155 (by decide) (fun c9 => absurd c9 (by decide)) (fun _ => ?_)
            refine lv_bipush (v := nI 8) hx hb d_M_repair_158 rfl ?_
            refine lv_goto (tgt := 164) hx hb d_M_repair_160 (by decide) ?_
            refine lv_iaddN hx hb d_M_repair_164 ?_
            refine lv_istore (lv' := [(5, .int (nI (((1 + 0) + 0) + 8))), (4, .int (nI (1))), (3, .int (nI (0))), (2, .int (nI (0))), (1, .int (nI (0))), (0, .ref (k 0))]) hx hb d_M_repair_165 hl (by decide) rfl (fun ls hl => ?_)
            refine lv_aload_n hx hb d_M_repair_167 rfl (lv_at hl 5 rfl) ?_
            refine g_callVi (As := []) (rest := []) ⟨hx, hb, hml, hown, hts⟩ (C := R_M) (index := 142) (c_M_guard l D k cI n A hn hn2 (d) (cpT d t (cAr n j) 1024) (cpT d mk (cHd n j + 56) 16) ) (cwV 0 hts (gd_V m_576 m_447 m_448 m_33 m_449) rfl rfl rfl hd_M_guard ⟨Nat.le_of_ble_eq_true rfl, Nat.le_of_ble_eq_true rfl⟩) mW_w mX_x hB hP hS (ci := 3) rfl (0) rfl rfl hl.1 rfl (Nat.le_of_ble_eq_true rfl) d_M_repair_168 ⟨Nat.zero_le _, Nat.zero_le _⟩ (fun r_ v_ H locs hw hP hS => ?_)
            obtain ⟨hw1, hw2⟩ := hw; have hw1 := hw1.symm; have hw2 := hw2.symm; subst hw1; subst hw2
            refine lv_if_ne (tgt := 178) hx hb d_M_repair_171 (by decide) (fun c9 => absurd (bI_0.mpr c_125) c9) (fun _ => ?_)
            refine lv_aload_n hx hb d_M_repair_174 rfl (lv_at hl 5 rfl) ?_
            refine g_callVv (As := []) (rest := []) ⟨hx, hb, hml, hown, hts⟩ (C := R_M) (index := 117) (c_M_writeGuard l D k cI n A hn hn2 (d) (cpT d t (cAr n j) 1024) (cpT d mk (cHd n j + 56) 16) ) (cwV 0 hts (gd_V m_521 m_523 m_22 m_33 m_524) rfl rfl rfl hd_M_writeGuard ⟨Nat.le_of_ble_eq_true rfl, Nat.le_of_ble_eq_true rfl⟩) mW_w mX_x hB hP hS (ci := 3) rfl (0) rfl rfl hl.1 rfl (Nat.le_of_ble_eq_true rfl) d_M_repair_175 ⟨Nat.zero_le _, Nat.zero_le _⟩ (fun v_ H locs hw hP hS => ?_)
            have hw := hw.symm; subst hw
            refine lv_iload_n hx hb d_M_repair_178 rfl (lv_at hl 4 rfl) ?_
            refine lv_if_ne (tgt := 191) hx hb d_M_repair_179 (by decide) (fun c9 => absurd (by decide) c9) (fun _ => ?_)
            refine lv_iload_n hx hb d_M_repair_182 rfl (lv_at hl 3 rfl) ?_
            refine lv_if_ne (tgt := 191) hx hb d_M_repair_183 (by decide) (fun c9 => absurd (by decide) c9) (fun _ => ?_)
            refine lv_iload hx hb d_M_repair_186 (lv_at hl 1 rfl) ?_
            refine lv_if_eq (tgt := 195) hx hb d_M_repair_188 (by decide) (fun c9 => absurd c9 (by decide)) (fun _ => ?_)
            refine lv_aload_n hx hb d_M_repair_191 rfl (lv_at hl 5 rfl) ?_
            refine g_callVv (As := []) (rest := []) ⟨hx, hb, hml, hown, hts⟩ (C := R_M) (index := 124) (c_M_writeTable l D k cI n A hn hn2 (wGd n d) ((cpT d t (cAr n j) 1024)) ((cpT d mk (cHd n j + 56) 16)) ) (cwV 0 hts (gd_V m_530 m_532 m_23 m_33 m_533) rfl rfl rfl hd_M_writeTable ⟨Nat.le_of_ble_eq_true rfl, Nat.le_of_ble_eq_true rfl⟩) mW_w mX_x hB hP hS (ci := 3) rfl (0) rfl rfl hl.1 rfl (Nat.le_of_ble_eq_true rfl) d_M_repair_192 ⟨Nat.zero_le _, Nat.zero_le _⟩ (fun v_ H locs hw hP hS => ?_)
            have hw := hw.symm; subst hw
            refine lv_iload hx hb d_M_repair_195 (lv_at hl 0 rfl) ?_
            have hjj : j = 0 := by have q := hsr; rw [src, cI_t c_14] at q; exact (Option.some.inj q).symm
            subst hjj
            have e1 : reD n d = wTb n 0 d := by rw [reD, cI_t c_14, cI_t c_28, cI_f (q := lik n 0 1 d) (fun z => c_61 z.1)]
            have e2 : reT n d = 8 := by rw [reT, cI_t c_14, cI_t c_28, cI_f (q := lik n 0 1 d) (fun z => c_61 z.1)]
            exact g_iret (v := (nI (((1 + 0) + 0) + 8))) hx hb hr hlk mW_w mX_x hB hP hS (by rw [reR, oS_s hsr, e1, e2, cI_f (fun z => c_125 ((gd_wT hn d).mp z))]; exact ⟨rfl, _, _, by rw [wT_takeG hn (by decide)]⟩) d_M_repair_197
          · have c_125 := bI_1 c_125
            refine lv_iconst (v := nI 0) hx hb d_M_repair_128 rfl ?_
            refine lv_goto (tgt := 133) hx hb d_M_repair_129 (by decide) ?_
            refine lv_iload_n hx hb d_M_repair_133 rfl (lv_at hl 3 rfl) ?_
            refine lv_if_eq (tgt := 141) hx hb d_M_repair_134 (by decide) (fun _ => ?_) (fun c9 => absurd (by decide) c9)
            refine lv_iconst (v := nI 0) hx hb d_M_repair_141 rfl ?_
            refine lv_iaddN hx hb d_M_repair_142 ?_
            refine lv_iload_n hx hb d_M_repair_143 rfl (lv_at hl 2 rfl) ?_
            refine lv_if_eq (tgt := 151) hx hb d_M_repair_144 (by decide) (fun _ => ?_) (fun c9 => absurd (by decide) c9)
            refine lv_iconst (v := nI 0) hx hb d_M_repair_151 rfl ?_
            refine lv_iaddN hx hb d_M_repair_152 ?_
            refine lv_iload hx hb d_M_repair_153 (lv_at hl 0 rfl) ?_
            refine lv_if_eq (tgt := 163) hx hb d_M_repair_155 (by decide) (fun c9 => absurd c9 (by decide)) (fun _ => ?_)
            refine lv_bipush (v := nI 8) hx hb d_M_repair_158 rfl ?_
            refine lv_goto (tgt := 164) hx hb d_M_repair_160 (by decide) ?_
            refine lv_iaddN hx hb d_M_repair_164 ?_
            refine lv_istore (lv' := [(5, .int (nI (((0 + 0) + 0) + 8))), (4, .int (nI (1))), (3, .int (nI (0))), (2, .int (nI (0))), (1, .int (nI (0))), (0, .ref (k 0))]) hx hb d_M_repair_165 hl (by decide) rfl (fun ls hl => ?_)
            refine lv_aload_n hx hb d_M_repair_167 rfl (lv_at hl 5 rfl) ?_
            refine g_callVi (As := []) (rest := []) ⟨hx, hb, hml, hown, hts⟩ (C := R_M) (index := 142) (c_M_guard l D k cI n A hn hn2 (d) (cpT d t (cAr n j) 1024) (cpT d mk (cHd n j + 56) 16) ) (cwV 0 hts (gd_V m_576 m_447 m_448 m_33 m_449) rfl rfl rfl hd_M_guard ⟨Nat.le_of_ble_eq_true rfl, Nat.le_of_ble_eq_true rfl⟩) mW_w mX_x hB hP hS (ci := 3) rfl (0) rfl rfl hl.1 rfl (Nat.le_of_ble_eq_true rfl) d_M_repair_168 ⟨Nat.zero_le _, Nat.zero_le _⟩ (fun r_ v_ H locs hw hP hS => ?_)
            obtain ⟨hw1, hw2⟩ := hw; have hw1 := hw1.symm; have hw2 := hw2.symm; subst hw1; subst hw2
            refine lv_if_ne (tgt := 178) hx hb d_M_repair_171 (by decide) (fun _ => ?_) (fun c9 => absurd c9 (fun z => bI_0.mp z c_125))
            refine lv_iload_n hx hb d_M_repair_178 rfl (lv_at hl 4 rfl) ?_
            refine lv_if_ne (tgt := 191) hx hb d_M_repair_179 (by decide) (fun c9 => absurd (by decide) c9) (fun _ => ?_)
            refine lv_iload_n hx hb d_M_repair_182 rfl (lv_at hl 3 rfl) ?_
            refine lv_if_ne (tgt := 191) hx hb d_M_repair_183 (by decide) (fun c9 => absurd (by decide) c9) (fun _ => ?_)
            refine lv_iload hx hb d_M_repair_186 (lv_at hl 1 rfl) ?_
            refine lv_if_eq (tgt := 195) hx hb d_M_repair_188 (by decide) (fun c9 => absurd c9 (by decide)) (fun _ => ?_)
            refine lv_aload_n hx hb d_M_repair_191 rfl (lv_at hl 5 rfl) ?_
            refine g_callVv (As := []) (rest := []) ⟨hx, hb, hml, hown, hts⟩ (C := R_M) (index := 124) (c_M_writeTable l D k cI n A hn hn2 (d) (cpT d t (cAr n j) 1024) (cpT d mk (cHd n j + 56) 16) ) (cwV 0 hts (gd_V m_530 m_532 m_23 m_33 m_533) rfl rfl rfl hd_M_writeTable ⟨Nat.le_of_ble_eq_true rfl, Nat.le_of_ble_eq_true rfl⟩) mW_w mX_x hB hP hS (ci := 3) rfl (0) rfl rfl hl.1 rfl (Nat.le_of_ble_eq_true rfl) d_M_repair_192 ⟨Nat.zero_le _, Nat.zero_le _⟩ (fun v_ H locs hw hP hS => ?_)
            have hw := hw.symm; subst hw
            refine lv_iload hx hb d_M_repair_195 (lv_at hl 0 rfl) ?_
            have hjj : j = 0 := by have q := hsr; rw [src, cI_t c_14] at q; exact (Option.some.inj q).symm
            subst hjj
            have e1 : reD n d = wTb n 0 d := by rw [reD, cI_t c_14, cI_t c_28, cI_f (q := lik n 0 1 d) (fun z => c_61 z.1)]
            have e2 : reT n d = 8 := by rw [reT, cI_t c_14, cI_t c_28, cI_f (q := lik n 0 1 d) (fun z => c_61 z.1)]
            exact g_iret (v := (nI (((0 + 0) + 0) + 8))) hx hb hr hlk mW_w mX_x hB hP hS (by rw [reR, oS_s hsr, e1, e2, cI_t ((gd_wT hn d).mpr c_125)]; exact ⟨rfl, _, _, by rw [wT_take hn (by decide)]⟩) d_M_repair_197
        · have c_61 := bI_1 c_61
          refine lv_aload_n hx hb d_M_repair_64 rfl (lv_at hl 2 rfl) ?_
          refine va_get (D := D) (ci := 3) (v := .ref (k 1)) (C := R_M) (T := F_M) (N := 4) hx hb hts (fun w h => .tail _ (fi_M w h)) hown hK hP 0 rfl rfl 1 (by decide) (hts _ (.tail _ m_405)) (fun _ h9 => h9) rfl d_M_repair_65 ?_
          refine lv_aload_n hx hb d_M_repair_68 rfl (lv_at hl 2 rfl) ?_
          refine lv_iconst (v := nI 0) hx hb d_M_repair_69 rfl ?_
          refine g_callVi (As := [.int (nI (0))]) (rest := [.ref (k 1)]) ⟨hx, hb, hml, hown, hts⟩ (C := R_M) (index := 82) (c_M_headerAt l D k cI n A hn hn2 (d) (cpT d t (cAr n j) 1024) (cpT d mk (cHd n j + 56) 16) (0) (by omega)) (cwV 1 hts (gd_V m_457 m_459 m_16 m_33 m_460) rfl rfl rfl hd_M_headerAt ⟨Nat.le_of_ble_eq_true rfl, Nat.le_of_ble_eq_true rfl⟩) mW_w mX_x hB hP hS (ci := 3) rfl (0) rfl rfl hl.1 rfl (Nat.le_of_ble_eq_true rfl) d_M_repair_70 ⟨Nat.zero_le _, Nat.zero_le _⟩ (fun r_ v_ H locs hw hP hS => ?_)
          obtain ⟨hw1, hw2⟩ := hw; have hw1 := hw1.symm; have hw2 := hw2.symm; subst hw1; subst hw2
          refine lv_bipush (v := nI 56) hx hb d_M_repair_73 rfl ?_
          refine lv_iaddN hx hb d_M_repair_75 ?_
          refine lv_aload_n hx hb d_M_repair_76 rfl (lv_at hl 2 rfl) ?_
          refine va_get (D := D) (ci := 3) (v := .ref (k 1)) (C := R_M) (T := F_M) (N := 4) hx hb hts (fun w h => .tail _ (fi_M w h)) hown hK hP 0 rfl rfl 1 (by decide) (hts _ (.tail _ m_405)) (fun _ h9 => h9) rfl d_M_repair_77 ?_
          refine lv_aload_n hx hb d_M_repair_80 rfl (lv_at hl 2 rfl) ?_
          refine lv_iconst (v := nI 1) hx hb d_M_repair_81 rfl ?_
          refine g_callVi (As := [.int (nI (1))]) (rest := [.ref (k 1), .int (nI ((cHd n 0) + 56)), .ref (k 1)]) ⟨hx, hb, hml, hown, hts⟩ (C := R_M) (index := 82) (c_M_headerAt l D k cI n A hn hn2 (d) (cpT d t (cAr n j) 1024) (cpT d mk (cHd n j + 56) 16) (1) (by omega)) (cwV 1 hts (gd_V m_457 m_459 m_16 m_33 m_460) rfl rfl rfl hd_M_headerAt ⟨Nat.le_of_ble_eq_true rfl, Nat.le_of_ble_eq_true rfl⟩) mW_w mX_x hB hP hS (ci := 3) rfl (0) rfl rfl hl.1 rfl (Nat.le_of_ble_eq_true rfl) d_M_repair_82 ⟨Nat.zero_le _, Nat.zero_le _⟩ (fun r_ v_ H locs hw hP hS => ?_)
          obtain ⟨hw1, hw2⟩ := hw; have hw1 := hw1.symm; have hw2 := hw2.symm; subst hw1; subst hw2
          refine lv_bipush (v := nI 56) hx hb d_M_repair_85 rfl ?_
          refine lv_iaddN hx hb d_M_repair_87 ?_
          refine lv_bipush (v := nI 16) hx hb d_M_repair_88 rfl ?_
          refine g_callSi (As := [.ref (k 1), .int (nI ((cHd n 0) + 56)), .ref (k 1), .int (nI ((cHd n 1) + 56)), .int (nI (16))]) (rest := []) ⟨hx, hb, hml, hown, hts⟩ (index := 78) (c_M_same l D k cI n A hn hn2 (mU (d) (cpT d t (cAr n j) 1024) (cpT d mk (cHd n j + 56) 16)) (1) (by omega) (by omega) (1) (by omega) (by omega) ((cHd n 0) + 56) ((cHd n 1) + 56) (16) (by omega) (by omega)) (cwS 5 hts (gd_S m_501 m_502 m_33 m_503) rfl rfl rfl hd_M_same ⟨Nat.le_of_ble_eq_true rfl, Nat.le_of_ble_eq_true rfl⟩) mW_w mX_x hB hP hS rfl hl.1 rfl (Nat.le_of_ble_eq_true rfl) d_M_repair_90 ⟨Nat.zero_le _, Nat.zero_le _⟩ (fun r_ v_ H locs hw hP hS => ?_)
          obtain ⟨hw1, hw2⟩ := hw; have hw1 : r_ = (bI (alk (d) (d) ((cHd n 0) + 56) ((cHd n 1) + 56) 16)) := hw1; have hw1 := hw1.symm; have hw2 := hw2.symm; subst hw1; subst hw2
          refine lv_if_eq (tgt := 100) hx hb d_M_repair_93 (by decide) (fun c_93 => ?_) (fun c_93 => ?_)
          · have c_93 := bI_0.mp c_93
            refine lv_iconst (v := nI 0) hx hb d_M_repair_100 rfl ?_
            refine lv_istore_n (lv' := [(3, .int (nI (0))), (2, .int (nI (0))), (1, .int (nI (0))), (0, .ref (k 0))]) hx hb d_M_repair_101 rfl hl (by decide) rfl (fun ls hl => ?_)
            refine lv_iload_n hx hb d_M_repair_102 rfl (lv_at hl 2 rfl) ?_
            refine lv_if_ne (tgt := 118) hx hb d_M_repair_103 (by decide) (fun c9 => absurd (by decide) c9) (fun _ => ?_)
            refine lv_iload_n hx hb d_M_repair_106 rfl (lv_at hl 1 rfl) ?_
            refine lv_if_ne (tgt := 118) hx hb d_M_repair_107 (by decide) (fun c9 => absurd (by decide) c9) (fun _ => ?_)
            refine lv_iload_n hx hb d_M_repair_110 rfl (lv_at hl 0 rfl) ?_
            refine lv_if_ne (tgt := 118) hx hb d_M_repair_111 (by decide) (fun c9 => absurd (by decide) c9) (fun _ => ?_)
            refine lv_iconst (v := nI 1) hx hb d_M_repair_114 rfl ?_
            refine lv_goto (tgt := 119) hx hb d_M_repair_115 (by decide) ?_
            refine lv_istore (lv' := [(4, .int (nI (1))), (3, .int (nI (0))), (2, .int (nI (0))), (1, .int (nI (0))), (0, .ref (k 0))]) hx hb d_M_repair_119 hl (by decide) rfl (fun ls hl => ?_)
            refine lv_aload_n hx hb d_M_repair_121 rfl (lv_at hl 4 rfl) ?_
            refine g_callVi (As := []) (rest := []) ⟨hx, hb, hml, hown, hts⟩ (C := R_M) (index := 142) (c_M_guard l D k cI n A hn hn2 (d) (cpT d t (cAr n j) 1024) (cpT d mk (cHd n j + 56) 16) ) (cwV 0 hts (gd_V m_576 m_447 m_448 m_33 m_449) rfl rfl rfl hd_M_guard ⟨Nat.le_of_ble_eq_true rfl, Nat.le_of_ble_eq_true rfl⟩) mW_w mX_x hB hP hS (ci := 3) rfl (0) rfl rfl hl.1 rfl (Nat.le_of_ble_eq_true rfl) d_M_repair_122 ⟨Nat.zero_le _, Nat.zero_le _⟩ (fun r_ v_ H locs hw hP hS => ?_)
            obtain ⟨hw1, hw2⟩ := hw; have hw1 := hw1.symm; have hw2 := hw2.symm; subst hw1; subst hw2
            refine lv_if_eq (tgt := 132) hx hb d_M_repair_125 (by decide) (fun c_125 => ?_) (fun c_125 => ?_)
            · have c_125 := bI_0.mp c_125
              refine lv_iconst (v := nI 1) hx hb d_M_repair_132 rfl ?_
              refine lv_iload_n hx hb d_M_repair_133 rfl (lv_at hl 3 rfl) ?_
              refine lv_if_eq (tgt := 141) hx hb d_M_repair_134 (by decide) (fun _ => ?_) (fun c9 => absurd (by decide) c9)
              refine lv_iconst (v := nI 0) hx hb d_M_repair_141 rfl ?_
              refine lv_iaddN hx hb d_M_repair_142 ?_
              refine lv_iload_n hx hb d_M_repair_143 rfl (lv_at hl 2 rfl) ?_
              refine lv_if_eq (tgt := 151) hx hb d_M_repair_144 (by decide) (fun _ => ?_) (fun c9 => absurd (by decide) c9)
              refine lv_iconst (v := nI 0) hx hb d_M_repair_151 rfl ?_
              refine lv_iaddN hx hb d_M_repair_152 ?_
              refine lv_iload hx hb d_M_repair_153 (lv_at hl 0 rfl) ?_
              refine lv_if_eq (tgt := 163) hx hb d_M_repair_155 (by decide) (fun c9 => absurd c9 (by decide)) (fun _ => ?_)
              refine lv_bipush (v := nI 8) hx hb d_M_repair_158 rfl ?_
              refine lv_goto (tgt := 164) hx hb d_M_repair_160 (by decide) ?_
              refine lv_iaddN hx hb d_M_repair_164 ?_
              refine lv_istore (lv' := [(5, .int (nI (((1 + 0) + 0) + 8))), (4, .int (nI (1))), (3, .int (nI (0))), (2, .int (nI (0))), (1, .int (nI (0))), (0, .ref (k 0))]) hx hb d_M_repair_165 hl (by decide) rfl (fun ls hl => ?_)
              refine lv_aload_n hx hb d_M_repair_167 rfl (lv_at hl 5 rfl) ?_
              refine g_callVi (As := []) (rest := []) ⟨hx, hb, hml, hown, hts⟩ (C := R_M) (index := 142) (c_M_guard l D k cI n A hn hn2 (d) (cpT d t (cAr n j) 1024) (cpT d mk (cHd n j + 56) 16) ) (cwV 0 hts (gd_V m_576 m_447 m_448 m_33 m_449) rfl rfl rfl hd_M_guard ⟨Nat.le_of_ble_eq_true rfl, Nat.le_of_ble_eq_true rfl⟩) mW_w mX_x hB hP hS (ci := 3) rfl (0) rfl rfl hl.1 rfl (Nat.le_of_ble_eq_true rfl) d_M_repair_168 ⟨Nat.zero_le _, Nat.zero_le _⟩ (fun r_ v_ H locs hw hP hS => ?_)
              obtain ⟨hw1, hw2⟩ := hw; have hw1 := hw1.symm; have hw2 := hw2.symm; subst hw1; subst hw2
              refine lv_if_ne (tgt := 178) hx hb d_M_repair_171 (by decide) (fun c9 => absurd (bI_0.mpr c_125) c9) (fun _ => ?_)
              refine lv_aload_n hx hb d_M_repair_174 rfl (lv_at hl 5 rfl) ?_
              refine g_callVv (As := []) (rest := []) ⟨hx, hb, hml, hown, hts⟩ (C := R_M) (index := 117) (c_M_writeGuard l D k cI n A hn hn2 (d) (cpT d t (cAr n j) 1024) (cpT d mk (cHd n j + 56) 16) ) (cwV 0 hts (gd_V m_521 m_523 m_22 m_33 m_524) rfl rfl rfl hd_M_writeGuard ⟨Nat.le_of_ble_eq_true rfl, Nat.le_of_ble_eq_true rfl⟩) mW_w mX_x hB hP hS (ci := 3) rfl (0) rfl rfl hl.1 rfl (Nat.le_of_ble_eq_true rfl) d_M_repair_175 ⟨Nat.zero_le _, Nat.zero_le _⟩ (fun v_ H locs hw hP hS => ?_)
              have hw := hw.symm; subst hw
              refine lv_iload_n hx hb d_M_repair_178 rfl (lv_at hl 4 rfl) ?_
              refine lv_if_ne (tgt := 191) hx hb d_M_repair_179 (by decide) (fun c9 => absurd (by decide) c9) (fun _ => ?_)
              refine lv_iload_n hx hb d_M_repair_182 rfl (lv_at hl 3 rfl) ?_
              refine lv_if_ne (tgt := 191) hx hb d_M_repair_183 (by decide) (fun c9 => absurd (by decide) c9) (fun _ => ?_)
              refine lv_iload hx hb d_M_repair_186 (lv_at hl 1 rfl) ?_
              refine lv_if_eq (tgt := 195) hx hb d_M_repair_188 (by decide) (fun c9 => absurd c9 (by decide)) (fun _ => ?_)
              refine lv_aload_n hx hb d_M_repair_191 rfl (lv_at hl 5 rfl) ?_
              refine g_callVv (As := []) (rest := []) ⟨hx, hb, hml, hown, hts⟩ (C := R_M) (index := 124) (c_M_writeTable l D k cI n A hn hn2 (wGd n d) ((cpT d t (cAr n j) 1024)) ((cpT d mk (cHd n j + 56) 16)) ) (cwV 0 hts (gd_V m_530 m_532 m_23 m_33 m_533) rfl rfl rfl hd_M_writeTable ⟨Nat.le_of_ble_eq_true rfl, Nat.le_of_ble_eq_true rfl⟩) mW_w mX_x hB hP hS (ci := 3) rfl (0) rfl rfl hl.1 rfl (Nat.le_of_ble_eq_true rfl) d_M_repair_192 ⟨Nat.zero_le _, Nat.zero_le _⟩ (fun v_ H locs hw hP hS => ?_)
              have hw := hw.symm; subst hw
              refine lv_iload hx hb d_M_repair_195 (lv_at hl 0 rfl) ?_
              have hjj : j = 0 := by have q := hsr; rw [src, cI_t c_14] at q; exact (Option.some.inj q).symm
              subst hjj
              have e1 : reD n d = wTb n 0 d := by rw [reD, cI_t c_14, cI_t c_28, cI_f (q := lik n 0 1 d) (fun z => c_93 z.2)]
              have e2 : reT n d = 8 := by rw [reT, cI_t c_14, cI_t c_28, cI_f (q := lik n 0 1 d) (fun z => c_93 z.2)]
              exact g_iret (v := (nI (((1 + 0) + 0) + 8))) hx hb hr hlk mW_w mX_x hB hP hS (by rw [reR, oS_s hsr, e1, e2, cI_f (fun z => c_125 ((gd_wT hn d).mp z))]; exact ⟨rfl, _, _, by rw [wT_takeG hn (by decide)]⟩) d_M_repair_197
            · have c_125 := bI_1 c_125
              refine lv_iconst (v := nI 0) hx hb d_M_repair_128 rfl ?_
              refine lv_goto (tgt := 133) hx hb d_M_repair_129 (by decide) ?_
              refine lv_iload_n hx hb d_M_repair_133 rfl (lv_at hl 3 rfl) ?_
              refine lv_if_eq (tgt := 141) hx hb d_M_repair_134 (by decide) (fun _ => ?_) (fun c9 => absurd (by decide) c9)
              refine lv_iconst (v := nI 0) hx hb d_M_repair_141 rfl ?_
              refine lv_iaddN hx hb d_M_repair_142 ?_
              refine lv_iload_n hx hb d_M_repair_143 rfl (lv_at hl 2 rfl) ?_
              refine lv_if_eq (tgt := 151) hx hb d_M_repair_144 (by decide) (fun _ => ?_) (fun c9 => absurd (by decide) c9)
              refine lv_iconst (v := nI 0) hx hb d_M_repair_151 rfl ?_
              refine lv_iaddN hx hb d_M_repair_152 ?_
              refine lv_iload hx hb d_M_repair_153 (lv_at hl 0 rfl) ?_
              refine lv_if_eq (tgt := 163) hx hb d_M_repair_155 (by decide) (fun c9 => absurd c9 (by decide)) (fun _ => ?_)
              refine lv_bipush (v := nI 8) hx hb d_M_repair_158 rfl ?_
              refine lv_goto (tgt := 164) hx hb d_M_repair_160 (by decide) ?_
              refine lv_iaddN hx hb d_M_repair_164 ?_
              refine lv_istore (lv' := [(5, .int (nI (((0 + 0) + 0) + 8))), (4, .int (nI (1))), (3, .int (nI (0))), (2, .int (nI (0))), (1, .int (nI (0))), (0, .ref (k 0))]) hx hb d_M_repair_165 hl (by decide) rfl (fun ls hl => ?_)
              refine lv_aload_n hx hb d_M_repair_167 rfl (lv_at hl 5 rfl) ?_
              refine g_callVi (As := []) (rest := []) ⟨hx, hb, hml, hown, hts⟩ (C := R_M) (index := 142) (c_M_guard l D k cI n A hn hn2 (d) (cpT d t (cAr n j) 1024) (cpT d mk (cHd n j + 56) 16) ) (cwV 0 hts (gd_V m_576 m_447 m_448 m_33 m_449) rfl rfl rfl hd_M_guard ⟨Nat.le_of_ble_eq_true rfl, Nat.le_of_ble_eq_true rfl⟩) mW_w mX_x hB hP hS (ci := 3) rfl (0) rfl rfl hl.1 rfl (Nat.le_of_ble_eq_true rfl) d_M_repair_168 ⟨Nat.zero_le _, Nat.zero_le _⟩ (fun r_ v_ H locs hw hP hS => ?_)
              obtain ⟨hw1, hw2⟩ := hw; have hw1 := hw1.symm; have hw2 := hw2.symm; subst hw1; subst hw2
              refine lv_if_ne (tgt := 178) hx hb d_M_repair_171 (by decide) (fun _ => ?_) (fun c9 => absurd c9 (fun z => bI_0.mp z c_125))
              refine lv_iload_n hx hb d_M_repair_178 rfl (lv_at hl 4 rfl) ?_
              refine lv_if_ne (tgt := 191) hx hb d_M_repair_179 (by decide) (fun c9 => absurd (by decide) c9) (fun _ => ?_)
              refine lv_iload_n hx hb d_M_repair_182 rfl (lv_at hl 3 rfl) ?_
              refine lv_if_ne (tgt := 191) hx hb d_M_repair_183 (by decide) (fun c9 => absurd (by decide) c9) (fun _ => ?_)
              refine lv_iload hx hb d_M_repair_186 (lv_at hl 1 rfl) ?_
              refine lv_if_eq (tgt := 195) hx hb d_M_repair_188 (by decide) (fun c9 => absurd c9 (by decide)) (fun _ => ?_)
              refine lv_aload_n hx hb d_M_repair_191 rfl (lv_at hl 5 rfl) ?_
              refine g_callVv (As := []) (rest := []) ⟨hx, hb, hml, hown, hts⟩ (C := R_M) (index := 124) (c_M_writeTable l D k cI n A hn hn2 (d) (cpT d t (cAr n j) 1024) (cpT d mk (cHd n j + 56) 16) ) (cwV 0 hts (gd_V m_530 m_532 m_23 m_33 m_533) rfl rfl rfl hd_M_writeTable ⟨Nat.le_of_ble_eq_true rfl, Nat.le_of_ble_eq_true rfl⟩) mW_w mX_x hB hP hS (ci := 3) rfl (0) rfl rfl hl.1 rfl (Nat.le_of_ble_eq_true rfl) d_M_repair_192 ⟨Nat.zero_le _, Nat.zero_le _⟩ (fun v_ H locs hw hP hS => ?_)
              have hw := hw.symm; subst hw
              refine lv_iload hx hb d_M_repair_195 (lv_at hl 0 rfl) ?_
              have hjj : j = 0 := by have q := hsr; rw [src, cI_t c_14] at q; exact (Option.some.inj q).symm
              subst hjj
              have e1 : reD n d = wTb n 0 d := by rw [reD, cI_t c_14, cI_t c_28, cI_f (q := lik n 0 1 d) (fun z => c_93 z.2)]
              have e2 : reT n d = 8 := by rw [reT, cI_t c_14, cI_t c_28, cI_f (q := lik n 0 1 d) (fun z => c_93 z.2)]
              exact g_iret (v := (nI (((0 + 0) + 0) + 8))) hx hb hr hlk mW_w mX_x hB hP hS (by rw [reR, oS_s hsr, e1, e2, cI_t ((gd_wT hn d).mpr c_125)]; exact ⟨rfl, _, _, by rw [wT_take hn (by decide)]⟩) d_M_repair_197
          · have c_93 := bI_1 c_93
            refine lv_iconst (v := nI 1) hx hb d_M_repair_96 rfl ?_
            refine lv_goto (tgt := 101) hx hb d_M_repair_97 (by decide) ?_
            refine lv_istore_n (lv' := [(3, .int (nI (1))), (2, .int (nI (0))), (1, .int (nI (0))), (0, .ref (k 0))]) hx hb d_M_repair_101 rfl hl (by decide) rfl (fun ls hl => ?_)
            refine lv_iload_n hx hb d_M_repair_102 rfl (lv_at hl 2 rfl) ?_
            refine lv_if_ne (tgt := 118) hx hb d_M_repair_103 (by decide) (fun c9 => absurd (by decide) c9) (fun _ => ?_)
            refine lv_iload_n hx hb d_M_repair_106 rfl (lv_at hl 1 rfl) ?_
            refine lv_if_ne (tgt := 118) hx hb d_M_repair_107 (by decide) (fun c9 => absurd (by decide) c9) (fun _ => ?_)
            refine lv_iload_n hx hb d_M_repair_110 rfl (lv_at hl 0 rfl) ?_
            refine lv_if_ne (tgt := 118) hx hb d_M_repair_111 (by decide) (fun _ => ?_) (fun c9 => absurd c9 (by decide))
            refine lv_iconst (v := nI 0) hx hb d_M_repair_118 rfl ?_
            refine lv_istore (lv' := [(4, .int (nI (0))), (3, .int (nI (1))), (2, .int (nI (0))), (1, .int (nI (0))), (0, .ref (k 0))]) hx hb d_M_repair_119 hl (by decide) rfl (fun ls hl => ?_)
            refine lv_aload_n hx hb d_M_repair_121 rfl (lv_at hl 4 rfl) ?_
            refine g_callVi (As := []) (rest := []) ⟨hx, hb, hml, hown, hts⟩ (C := R_M) (index := 142) (c_M_guard l D k cI n A hn hn2 (d) (cpT d t (cAr n j) 1024) (cpT d mk (cHd n j + 56) 16) ) (cwV 0 hts (gd_V m_576 m_447 m_448 m_33 m_449) rfl rfl rfl hd_M_guard ⟨Nat.le_of_ble_eq_true rfl, Nat.le_of_ble_eq_true rfl⟩) mW_w mX_x hB hP hS (ci := 3) rfl (0) rfl rfl hl.1 rfl (Nat.le_of_ble_eq_true rfl) d_M_repair_122 ⟨Nat.zero_le _, Nat.zero_le _⟩ (fun r_ v_ H locs hw hP hS => ?_)
            obtain ⟨hw1, hw2⟩ := hw; have hw1 := hw1.symm; have hw2 := hw2.symm; subst hw1; subst hw2
            refine lv_if_eq (tgt := 132) hx hb d_M_repair_125 (by decide) (fun c_125 => ?_) (fun c_125 => ?_)
            · have c_125 := bI_0.mp c_125
              refine lv_iconst (v := nI 1) hx hb d_M_repair_132 rfl ?_
              refine lv_iload_n hx hb d_M_repair_133 rfl (lv_at hl 3 rfl) ?_
              refine lv_if_eq (tgt := 141) hx hb d_M_repair_134 (by decide) (fun _ => ?_) (fun c9 => absurd (by decide) c9)
              refine lv_iconst (v := nI 0) hx hb d_M_repair_141 rfl ?_
              refine lv_iaddN hx hb d_M_repair_142 ?_
              refine lv_iload_n hx hb d_M_repair_143 rfl (lv_at hl 2 rfl) ?_
              refine lv_if_eq (tgt := 151) hx hb d_M_repair_144 (by decide) (fun _ => ?_) (fun c9 => absurd (by decide) c9)
              refine lv_iconst (v := nI 0) hx hb d_M_repair_151 rfl ?_
              refine lv_iaddN hx hb d_M_repair_152 ?_
              refine lv_iload hx hb d_M_repair_153 (lv_at hl 0 rfl) ?_
              refine lv_if_eq (tgt := 163) hx hb d_M_repair_155 (by decide) (fun _ => ?_) (fun c9 => absurd (by decide) c9)
              refine lv_iconst (v := nI 0) hx hb d_M_repair_163 rfl ?_
              refine lv_iaddN hx hb d_M_repair_164 ?_
              refine lv_istore (lv' := [(5, .int (nI (((1 + 0) + 0) + 0))), (4, .int (nI (0))), (3, .int (nI (1))), (2, .int (nI (0))), (1, .int (nI (0))), (0, .ref (k 0))]) hx hb d_M_repair_165 hl (by decide) rfl (fun ls hl => ?_)
              refine lv_aload_n hx hb d_M_repair_167 rfl (lv_at hl 5 rfl) ?_
              refine g_callVi (As := []) (rest := []) ⟨hx, hb, hml, hown, hts⟩ (C := R_M) (index := 142) (c_M_guard l D k cI n A hn hn2 (d) (cpT d t (cAr n j) 1024) (cpT d mk (cHd n j + 56) 16) ) (cwV 0 hts (gd_V m_576 m_447 m_448 m_33 m_449) rfl rfl rfl hd_M_guard ⟨Nat.le_of_ble_eq_true rfl, Nat.le_of_ble_eq_true rfl⟩) mW_w mX_x hB hP hS (ci := 3) rfl (0) rfl rfl hl.1 rfl (Nat.le_of_ble_eq_true rfl) d_M_repair_168 ⟨Nat.zero_le _, Nat.zero_le _⟩ (fun r_ v_ H locs hw hP hS => ?_)
              obtain ⟨hw1, hw2⟩ := hw; have hw1 := hw1.symm; have hw2 := hw2.symm; subst hw1; subst hw2
              refine lv_if_ne (tgt := 178) hx hb d_M_repair_171 (by decide) (fun c9 => absurd (bI_0.mpr c_125) c9) (fun _ => ?_)
              refine lv_aload_n hx hb d_M_repair_174 rfl (lv_at hl 5 rfl) ?_
              refine g_callVv (As := []) (rest := []) ⟨hx, hb, hml, hown, hts⟩ (C := R_M) (index := 117) (c_M_writeGuard l D k cI n A hn hn2 (d) (cpT d t (cAr n j) 1024) (cpT d mk (cHd n j + 56) 16) ) (cwV 0 hts (gd_V m_521 m_523 m_22 m_33 m_524) rfl rfl rfl hd_M_writeGuard ⟨Nat.le_of_ble_eq_true rfl, Nat.le_of_ble_eq_true rfl⟩) mW_w mX_x hB hP hS (ci := 3) rfl (0) rfl rfl hl.1 rfl (Nat.le_of_ble_eq_true rfl) d_M_repair_175 ⟨Nat.zero_le _, Nat.zero_le _⟩ (fun v_ H locs hw hP hS => ?_)
              have hw := hw.symm; subst hw
              refine lv_iload_n hx hb d_M_repair_178 rfl (lv_at hl 4 rfl) ?_
              refine lv_if_ne (tgt := 191) hx hb d_M_repair_179 (by decide) (fun c9 => absurd (by decide) c9) (fun _ => ?_)
              refine lv_iload_n hx hb d_M_repair_182 rfl (lv_at hl 3 rfl) ?_
              refine lv_if_ne (tgt := 191) hx hb d_M_repair_183 (by decide) (fun c9 => absurd (by decide) c9) (fun _ => ?_)
              refine lv_iload hx hb d_M_repair_186 (lv_at hl 1 rfl) ?_
              refine lv_if_eq (tgt := 195) hx hb d_M_repair_188 (by decide) (fun _ => ?_) (fun c9 => absurd (by decide) c9)
              refine lv_iload hx hb d_M_repair_195 (lv_at hl 0 rfl) ?_
              have hjj : j = 0 := by have q := hsr; rw [src, cI_t c_14] at q; exact (Option.some.inj q).symm
              subst hjj
              have e1 : reD n d = d := by rw [reD, cI_t c_14, cI_t c_28, cI_t (q := lik n 0 1 d) ⟨c_61, c_93⟩]
              have e2 : reT n d = 0 := by rw [reT, cI_t c_14, cI_t c_28, cI_t (q := lik n 0 1 d) ⟨c_61, c_93⟩]
              exact g_iret (v := (nI (((1 + 0) + 0) + 0))) hx hb hr hlk mW_w mX_x hB hP hS (by rw [reR, oS_s hsr, e1, e2, cI_f (c_125)]; exact ⟨rfl, _, _, rfl⟩) d_M_repair_197
            · have c_125 := bI_1 c_125
              refine lv_iconst (v := nI 0) hx hb d_M_repair_128 rfl ?_
              refine lv_goto (tgt := 133) hx hb d_M_repair_129 (by decide) ?_
              refine lv_iload_n hx hb d_M_repair_133 rfl (lv_at hl 3 rfl) ?_
              refine lv_if_eq (tgt := 141) hx hb d_M_repair_134 (by decide) (fun _ => ?_) (fun c9 => absurd (by decide) c9)
              refine lv_iconst (v := nI 0) hx hb d_M_repair_141 rfl ?_
              refine lv_iaddN hx hb d_M_repair_142 ?_
              refine lv_iload_n hx hb d_M_repair_143 rfl (lv_at hl 2 rfl) ?_
              refine lv_if_eq (tgt := 151) hx hb d_M_repair_144 (by decide) (fun _ => ?_) (fun c9 => absurd (by decide) c9)
              refine lv_iconst (v := nI 0) hx hb d_M_repair_151 rfl ?_
              refine lv_iaddN hx hb d_M_repair_152 ?_
              refine lv_iload hx hb d_M_repair_153 (lv_at hl 0 rfl) ?_
              refine lv_if_eq (tgt := 163) hx hb d_M_repair_155 (by decide) (fun _ => ?_) (fun c9 => absurd (by decide) c9)
              refine lv_iconst (v := nI 0) hx hb d_M_repair_163 rfl ?_
              refine lv_iaddN hx hb d_M_repair_164 ?_
              refine lv_istore (lv' := [(5, .int (nI (((0 + 0) + 0) + 0))), (4, .int (nI (0))), (3, .int (nI (1))), (2, .int (nI (0))), (1, .int (nI (0))), (0, .ref (k 0))]) hx hb d_M_repair_165 hl (by decide) rfl (fun ls hl => ?_)
              refine lv_aload_n hx hb d_M_repair_167 rfl (lv_at hl 5 rfl) ?_
              refine g_callVi (As := []) (rest := []) ⟨hx, hb, hml, hown, hts⟩ (C := R_M) (index := 142) (c_M_guard l D k cI n A hn hn2 (d) (cpT d t (cAr n j) 1024) (cpT d mk (cHd n j + 56) 16) ) (cwV 0 hts (gd_V m_576 m_447 m_448 m_33 m_449) rfl rfl rfl hd_M_guard ⟨Nat.le_of_ble_eq_true rfl, Nat.le_of_ble_eq_true rfl⟩) mW_w mX_x hB hP hS (ci := 3) rfl (0) rfl rfl hl.1 rfl (Nat.le_of_ble_eq_true rfl) d_M_repair_168 ⟨Nat.zero_le _, Nat.zero_le _⟩ (fun r_ v_ H locs hw hP hS => ?_)
              obtain ⟨hw1, hw2⟩ := hw; have hw1 := hw1.symm; have hw2 := hw2.symm; subst hw1; subst hw2
              refine lv_if_ne (tgt := 178) hx hb d_M_repair_171 (by decide) (fun _ => ?_) (fun c9 => absurd c9 (fun z => bI_0.mp z c_125))
              refine lv_iload_n hx hb d_M_repair_178 rfl (lv_at hl 4 rfl) ?_
              refine lv_if_ne (tgt := 191) hx hb d_M_repair_179 (by decide) (fun c9 => absurd (by decide) c9) (fun _ => ?_)
              refine lv_iload_n hx hb d_M_repair_182 rfl (lv_at hl 3 rfl) ?_
              refine lv_if_ne (tgt := 191) hx hb d_M_repair_183 (by decide) (fun c9 => absurd (by decide) c9) (fun _ => ?_)
              refine lv_iload hx hb d_M_repair_186 (lv_at hl 1 rfl) ?_
              refine lv_if_eq (tgt := 195) hx hb d_M_repair_188 (by decide) (fun _ => ?_) (fun c9 => absurd (by decide) c9)
              refine lv_iload hx hb d_M_repair_195 (lv_at hl 0 rfl) ?_
              have hjj : j = 0 := by have q := hsr; rw [src, cI_t c_14] at q; exact (Option.some.inj q).symm
              subst hjj
              have e1 : reD n d = d := by rw [reD, cI_t c_14, cI_t c_28, cI_t (q := lik n 0 1 d) ⟨c_61, c_93⟩]
              have e2 : reT n d = 0 := by rw [reT, cI_t c_14, cI_t c_28, cI_t (q := lik n 0 1 d) ⟨c_61, c_93⟩]
              exact g_iret (v := (nI (((0 + 0) + 0) + 0))) hx hb hr hlk mW_w mX_x hB hP hS (by rw [reR, oS_s hsr, e1, e2, cI_t (c_125)]; exact ⟨rfl, _, _, rfl⟩) d_M_repair_197
      · refine lv_iconst (v := nI 1) hx hb d_M_repair_31 rfl ?_
        refine lv_goto (tgt := 36) hx hb d_M_repair_32 (by decide) ?_
        refine lv_istore_n (lv' := [(2, .int (nI (1))), (1, .int (nI (0))), (0, .ref (k 0))]) hx hb d_M_repair_36 rfl hl (by decide) rfl (fun ls hl => ?_)
        refine lv_aload_n hx hb d_M_repair_37 rfl (lv_at hl 2 rfl) ?_
        refine va_get (D := D) (ci := 3) (v := .ref (k 1)) (C := R_M) (T := F_M) (N := 4) hx hb hts (fun w h => .tail _ (fi_M w h)) hown hK hP 0 rfl rfl 1 (by decide) (hts _ (.tail _ m_405)) (fun _ h9 => h9) rfl d_M_repair_38 ?_
        refine lv_aload_n hx hb d_M_repair_41 rfl (lv_at hl 2 rfl) ?_
        refine lv_iconst (v := nI 0) hx hb d_M_repair_42 rfl ?_
        refine g_callVi (As := [.int (nI (0))]) (rest := [.ref (k 1)]) ⟨hx, hb, hml, hown, hts⟩ (C := R_M) (index := 96) (c_M_arrayAt l D k cI n A hn hn2 (d) (cpT d t (cAr n j) 1024) (cpT d mk (cHd n j + 56) 16) (0) (by omega)) (cwV 1 hts (gd_V m_477 m_479 m_19 m_33 m_480) rfl rfl rfl hd_M_arrayAt ⟨Nat.le_of_ble_eq_true rfl, Nat.le_of_ble_eq_true rfl⟩) mW_w mX_x hB hP hS (ci := 3) rfl (0) rfl rfl hl.1 rfl (Nat.le_of_ble_eq_true rfl) d_M_repair_43 ⟨Nat.zero_le _, Nat.zero_le _⟩ (fun r_ v_ H locs hw hP hS => ?_)
        obtain ⟨hw1, hw2⟩ := hw; have hw1 := hw1.symm; have hw2 := hw2.symm; subst hw1; subst hw2
        refine lv_aload_n hx hb d_M_repair_46 rfl (lv_at hl 2 rfl) ?_
        refine va_get (D := D) (ci := 3) (v := .ref (k 1)) (C := R_M) (T := F_M) (N := 4) hx hb hts (fun w h => .tail _ (fi_M w h)) hown hK hP 0 rfl rfl 1 (by decide) (hts _ (.tail _ m_405)) (fun _ h9 => h9) rfl d_M_repair_47 ?_
        refine lv_aload_n hx hb d_M_repair_50 rfl (lv_at hl 2 rfl) ?_
        refine lv_iconst (v := nI 1) hx hb d_M_repair_51 rfl ?_
        refine g_callVi (As := [.int (nI (1))]) (rest := [.ref (k 1), .int (nI (cAr n 0)), .ref (k 1)]) ⟨hx, hb, hml, hown, hts⟩ (C := R_M) (index := 96) (c_M_arrayAt l D k cI n A hn hn2 (d) (cpT d t (cAr n j) 1024) (cpT d mk (cHd n j + 56) 16) (1) (by omega)) (cwV 1 hts (gd_V m_477 m_479 m_19 m_33 m_480) rfl rfl rfl hd_M_arrayAt ⟨Nat.le_of_ble_eq_true rfl, Nat.le_of_ble_eq_true rfl⟩) mW_w mX_x hB hP hS (ci := 3) rfl (0) rfl rfl hl.1 rfl (Nat.le_of_ble_eq_true rfl) d_M_repair_52 ⟨Nat.zero_le _, Nat.zero_le _⟩ (fun r_ v_ H locs hw hP hS => ?_)
        obtain ⟨hw1, hw2⟩ := hw; have hw1 := hw1.symm; have hw2 := hw2.symm; subst hw1; subst hw2
        refine lv_sipush (v := nI 1024) hx hb d_M_repair_55 rfl ?_
        refine g_callSi (As := [.ref (k 1), .int (nI (cAr n 0)), .ref (k 1), .int (nI (cAr n 1)), .int (nI (1024))]) (rest := []) ⟨hx, hb, hml, hown, hts⟩ (index := 78) (c_M_same l D k cI n A hn hn2 (mU (d) (cpT d t (cAr n j) 1024) (cpT d mk (cHd n j + 56) 16)) (1) (by omega) (by omega) (1) (by omega) (by omega) (cAr n 0) (cAr n 1) (1024) (by omega) (by omega)) (cwS 5 hts (gd_S m_501 m_502 m_33 m_503) rfl rfl rfl hd_M_same ⟨Nat.le_of_ble_eq_true rfl, Nat.le_of_ble_eq_true rfl⟩) mW_w mX_x hB hP hS rfl hl.1 rfl (Nat.le_of_ble_eq_true rfl) d_M_repair_58 ⟨Nat.zero_le _, Nat.zero_le _⟩ (fun r_ v_ H locs hw hP hS => ?_)
        obtain ⟨hw1, hw2⟩ := hw; have hw1 : r_ = (bI (alk (d) (d) (cAr n 0) (cAr n 1) 1024)) := hw1; have hw1 := hw1.symm; have hw2 := hw2.symm; subst hw1; subst hw2
        refine lv_if_eq (tgt := 100) hx hb d_M_repair_61 (by decide) (fun c_61 => ?_) (fun c_61 => ?_)
        · have c_61 := bI_0.mp c_61
          refine lv_iconst (v := nI 0) hx hb d_M_repair_100 rfl ?_
          refine lv_istore_n (lv' := [(3, .int (nI (0))), (2, .int (nI (1))), (1, .int (nI (0))), (0, .ref (k 0))]) hx hb d_M_repair_101 rfl hl (by decide) rfl (fun ls hl => ?_)
          refine lv_iload_n hx hb d_M_repair_102 rfl (lv_at hl 2 rfl) ?_
          refine lv_if_ne (tgt := 118) hx hb d_M_repair_103 (by decide) (fun c9 => absurd (by decide) c9) (fun _ => ?_)
          refine lv_iload_n hx hb d_M_repair_106 rfl (lv_at hl 1 rfl) ?_
          refine lv_if_ne (tgt := 118) hx hb d_M_repair_107 (by decide) (fun _ => ?_) (fun c9 => absurd c9 (by decide))
          refine lv_iconst (v := nI 0) hx hb d_M_repair_118 rfl ?_
          refine lv_istore (lv' := [(4, .int (nI (0))), (3, .int (nI (0))), (2, .int (nI (1))), (1, .int (nI (0))), (0, .ref (k 0))]) hx hb d_M_repair_119 hl (by decide) rfl (fun ls hl => ?_)
          refine lv_aload_n hx hb d_M_repair_121 rfl (lv_at hl 4 rfl) ?_
          refine g_callVi (As := []) (rest := []) ⟨hx, hb, hml, hown, hts⟩ (C := R_M) (index := 142) (c_M_guard l D k cI n A hn hn2 (d) (cpT d t (cAr n j) 1024) (cpT d mk (cHd n j + 56) 16) ) (cwV 0 hts (gd_V m_576 m_447 m_448 m_33 m_449) rfl rfl rfl hd_M_guard ⟨Nat.le_of_ble_eq_true rfl, Nat.le_of_ble_eq_true rfl⟩) mW_w mX_x hB hP hS (ci := 3) rfl (0) rfl rfl hl.1 rfl (Nat.le_of_ble_eq_true rfl) d_M_repair_122 ⟨Nat.zero_le _, Nat.zero_le _⟩ (fun r_ v_ H locs hw hP hS => ?_)
          obtain ⟨hw1, hw2⟩ := hw; have hw1 := hw1.symm; have hw2 := hw2.symm; subst hw1; subst hw2
          refine lv_if_eq (tgt := 132) hx hb d_M_repair_125 (by decide) (fun c_125 => ?_) (fun c_125 => ?_)
          · have c_125 := bI_0.mp c_125
            refine lv_iconst (v := nI 1) hx hb d_M_repair_132 rfl ?_
            refine lv_iload_n hx hb d_M_repair_133 rfl (lv_at hl 3 rfl) ?_
            refine lv_if_eq (tgt := 141) hx hb d_M_repair_134 (by decide) (fun _ => ?_) (fun c9 => absurd (by decide) c9)
            refine lv_iconst (v := nI 0) hx hb d_M_repair_141 rfl ?_
            refine lv_iaddN hx hb d_M_repair_142 ?_
            refine lv_iload_n hx hb d_M_repair_143 rfl (lv_at hl 2 rfl) ?_
            refine lv_if_eq (tgt := 151) hx hb d_M_repair_144 (by decide) (fun c9 => absurd c9 (by decide)) (fun _ => ?_)
            refine lv_iconst (v := nI 4) hx hb d_M_repair_147 rfl ?_
            refine lv_goto (tgt := 152) hx hb d_M_repair_148 (by decide) ?_
            refine lv_iaddN hx hb d_M_repair_152 ?_
            refine lv_iload hx hb d_M_repair_153 (lv_at hl 0 rfl) ?_
            refine lv_if_eq (tgt := 163) hx hb d_M_repair_155 (by decide) (fun _ => ?_) (fun c9 => absurd (by decide) c9)
            refine lv_iconst (v := nI 0) hx hb d_M_repair_163 rfl ?_
            refine lv_iaddN hx hb d_M_repair_164 ?_
            refine lv_istore (lv' := [(5, .int (nI (((1 + 0) + 4) + 0))), (4, .int (nI (0))), (3, .int (nI (0))), (2, .int (nI (1))), (1, .int (nI (0))), (0, .ref (k 0))]) hx hb d_M_repair_165 hl (by decide) rfl (fun ls hl => ?_)
            refine lv_aload_n hx hb d_M_repair_167 rfl (lv_at hl 5 rfl) ?_
            refine g_callVi (As := []) (rest := []) ⟨hx, hb, hml, hown, hts⟩ (C := R_M) (index := 142) (c_M_guard l D k cI n A hn hn2 (d) (cpT d t (cAr n j) 1024) (cpT d mk (cHd n j + 56) 16) ) (cwV 0 hts (gd_V m_576 m_447 m_448 m_33 m_449) rfl rfl rfl hd_M_guard ⟨Nat.le_of_ble_eq_true rfl, Nat.le_of_ble_eq_true rfl⟩) mW_w mX_x hB hP hS (ci := 3) rfl (0) rfl rfl hl.1 rfl (Nat.le_of_ble_eq_true rfl) d_M_repair_168 ⟨Nat.zero_le _, Nat.zero_le _⟩ (fun r_ v_ H locs hw hP hS => ?_)
            obtain ⟨hw1, hw2⟩ := hw; have hw1 := hw1.symm; have hw2 := hw2.symm; subst hw1; subst hw2
            refine lv_if_ne (tgt := 178) hx hb d_M_repair_171 (by decide) (fun c9 => absurd (bI_0.mpr c_125) c9) (fun _ => ?_)
            refine lv_aload_n hx hb d_M_repair_174 rfl (lv_at hl 5 rfl) ?_
            refine g_callVv (As := []) (rest := []) ⟨hx, hb, hml, hown, hts⟩ (C := R_M) (index := 117) (c_M_writeGuard l D k cI n A hn hn2 (d) (cpT d t (cAr n j) 1024) (cpT d mk (cHd n j + 56) 16) ) (cwV 0 hts (gd_V m_521 m_523 m_22 m_33 m_524) rfl rfl rfl hd_M_writeGuard ⟨Nat.le_of_ble_eq_true rfl, Nat.le_of_ble_eq_true rfl⟩) mW_w mX_x hB hP hS (ci := 3) rfl (0) rfl rfl hl.1 rfl (Nat.le_of_ble_eq_true rfl) d_M_repair_175 ⟨Nat.zero_le _, Nat.zero_le _⟩ (fun v_ H locs hw hP hS => ?_)
            have hw := hw.symm; subst hw
            refine lv_iload_n hx hb d_M_repair_178 rfl (lv_at hl 4 rfl) ?_
            refine lv_if_ne (tgt := 191) hx hb d_M_repair_179 (by decide) (fun c9 => absurd (by decide) c9) (fun _ => ?_)
            refine lv_iload_n hx hb d_M_repair_182 rfl (lv_at hl 3 rfl) ?_
            refine lv_if_ne (tgt := 191) hx hb d_M_repair_183 (by decide) (fun _ => ?_) (fun c9 => absurd c9 (by decide))
            refine lv_aload_n hx hb d_M_repair_191 rfl (lv_at hl 5 rfl) ?_
            refine g_callVv (As := []) (rest := []) ⟨hx, hb, hml, hown, hts⟩ (C := R_M) (index := 124) (c_M_writeTable l D k cI n A hn hn2 (wGd n d) ((cpT d t (cAr n j) 1024)) ((cpT d mk (cHd n j + 56) 16)) ) (cwV 0 hts (gd_V m_530 m_532 m_23 m_33 m_533) rfl rfl rfl hd_M_writeTable ⟨Nat.le_of_ble_eq_true rfl, Nat.le_of_ble_eq_true rfl⟩) mW_w mX_x hB hP hS (ci := 3) rfl (0) rfl rfl hl.1 rfl (Nat.le_of_ble_eq_true rfl) d_M_repair_192 ⟨Nat.zero_le _, Nat.zero_le _⟩ (fun v_ H locs hw hP hS => ?_)
            have hw := hw.symm; subst hw
            refine lv_iload hx hb d_M_repair_195 (lv_at hl 0 rfl) ?_
            have hjj : j = 0 := by have q := hsr; rw [src, cI_t c_14] at q; exact (Option.some.inj q).symm
            subst hjj
            have e1 : reD n d = wTb n 0 d := by rw [reD, cI_t c_14, cI_f c_28]
            have e2 : reT n d = 4 := by rw [reT, cI_t c_14, cI_f c_28]
            exact g_iret (v := (nI (((1 + 0) + 4) + 0))) hx hb hr hlk mW_w mX_x hB hP hS (by rw [reR, oS_s hsr, e1, e2, cI_f (fun z => c_125 ((gd_wT hn d).mp z))]; exact ⟨rfl, _, _, by rw [wT_takeG hn (by decide)]⟩) d_M_repair_197
          · have c_125 := bI_1 c_125
            refine lv_iconst (v := nI 0) hx hb d_M_repair_128 rfl ?_
            refine lv_goto (tgt := 133) hx hb d_M_repair_129 (by decide) ?_
            refine lv_iload_n hx hb d_M_repair_133 rfl (lv_at hl 3 rfl) ?_
            refine lv_if_eq (tgt := 141) hx hb d_M_repair_134 (by decide) (fun _ => ?_) (fun c9 => absurd (by decide) c9)
            refine lv_iconst (v := nI 0) hx hb d_M_repair_141 rfl ?_
            refine lv_iaddN hx hb d_M_repair_142 ?_
            refine lv_iload_n hx hb d_M_repair_143 rfl (lv_at hl 2 rfl) ?_
            refine lv_if_eq (tgt := 151) hx hb d_M_repair_144 (by decide) (fun c9 => absurd c9 (by decide)) (fun _ => ?_)
            refine lv_iconst (v := nI 4) hx hb d_M_repair_147 rfl ?_
            refine lv_goto (tgt := 152) hx hb d_M_repair_148 (by decide) ?_
            refine lv_iaddN hx hb d_M_repair_152 ?_
            refine lv_iload hx hb d_M_repair_153 (lv_at hl 0 rfl) ?_
            refine lv_if_eq (tgt := 163) hx hb d_M_repair_155 (by decide) (fun _ => ?_) (fun c9 => absurd (by decide) c9)
            refine lv_iconst (v := nI 0) hx hb d_M_repair_163 rfl ?_
            refine lv_iaddN hx hb d_M_repair_164 ?_
            refine lv_istore (lv' := [(5, .int (nI (((0 + 0) + 4) + 0))), (4, .int (nI (0))), (3, .int (nI (0))), (2, .int (nI (1))), (1, .int (nI (0))), (0, .ref (k 0))]) hx hb d_M_repair_165 hl (by decide) rfl (fun ls hl => ?_)
            refine lv_aload_n hx hb d_M_repair_167 rfl (lv_at hl 5 rfl) ?_
            refine g_callVi (As := []) (rest := []) ⟨hx, hb, hml, hown, hts⟩ (C := R_M) (index := 142) (c_M_guard l D k cI n A hn hn2 (d) (cpT d t (cAr n j) 1024) (cpT d mk (cHd n j + 56) 16) ) (cwV 0 hts (gd_V m_576 m_447 m_448 m_33 m_449) rfl rfl rfl hd_M_guard ⟨Nat.le_of_ble_eq_true rfl, Nat.le_of_ble_eq_true rfl⟩) mW_w mX_x hB hP hS (ci := 3) rfl (0) rfl rfl hl.1 rfl (Nat.le_of_ble_eq_true rfl) d_M_repair_168 ⟨Nat.zero_le _, Nat.zero_le _⟩ (fun r_ v_ H locs hw hP hS => ?_)
            obtain ⟨hw1, hw2⟩ := hw; have hw1 := hw1.symm; have hw2 := hw2.symm; subst hw1; subst hw2
            refine lv_if_ne (tgt := 178) hx hb d_M_repair_171 (by decide) (fun _ => ?_) (fun c9 => absurd c9 (fun z => bI_0.mp z c_125))
            refine lv_iload_n hx hb d_M_repair_178 rfl (lv_at hl 4 rfl) ?_
            refine lv_if_ne (tgt := 191) hx hb d_M_repair_179 (by decide) (fun c9 => absurd (by decide) c9) (fun _ => ?_)
            refine lv_iload_n hx hb d_M_repair_182 rfl (lv_at hl 3 rfl) ?_
            refine lv_if_ne (tgt := 191) hx hb d_M_repair_183 (by decide) (fun _ => ?_) (fun c9 => absurd c9 (by decide))
            refine lv_aload_n hx hb d_M_repair_191 rfl (lv_at hl 5 rfl) ?_
            refine g_callVv (As := []) (rest := []) ⟨hx, hb, hml, hown, hts⟩ (C := R_M) (index := 124) (c_M_writeTable l D k cI n A hn hn2 (d) (cpT d t (cAr n j) 1024) (cpT d mk (cHd n j + 56) 16) ) (cwV 0 hts (gd_V m_530 m_532 m_23 m_33 m_533) rfl rfl rfl hd_M_writeTable ⟨Nat.le_of_ble_eq_true rfl, Nat.le_of_ble_eq_true rfl⟩) mW_w mX_x hB hP hS (ci := 3) rfl (0) rfl rfl hl.1 rfl (Nat.le_of_ble_eq_true rfl) d_M_repair_192 ⟨Nat.zero_le _, Nat.zero_le _⟩ (fun v_ H locs hw hP hS => ?_)
            have hw := hw.symm; subst hw
            refine lv_iload hx hb d_M_repair_195 (lv_at hl 0 rfl) ?_
            have hjj : j = 0 := by have q := hsr; rw [src, cI_t c_14] at q; exact (Option.some.inj q).symm
            subst hjj
            have e1 : reD n d = wTb n 0 d := by rw [reD, cI_t c_14, cI_f c_28]
            have e2 : reT n d = 4 := by rw [reT, cI_t c_14, cI_f c_28]
            exact g_iret (v := (nI (((0 + 0) + 4) + 0))) hx hb hr hlk mW_w mX_x hB hP hS (by rw [reR, oS_s hsr, e1, e2, cI_t ((gd_wT hn d).mpr c_125)]; exact ⟨rfl, _, _, by rw [wT_take hn (by decide)]⟩) d_M_repair_197
        · have c_61 := bI_1 c_61
          refine lv_aload_n hx hb d_M_repair_64 rfl (lv_at hl 2 rfl) ?_
          refine va_get (D := D) (ci := 3) (v := .ref (k 1)) (C := R_M) (T := F_M) (N := 4) hx hb hts (fun w h => .tail _ (fi_M w h)) hown hK hP 0 rfl rfl 1 (by decide) (hts _ (.tail _ m_405)) (fun _ h9 => h9) rfl d_M_repair_65 ?_
          refine lv_aload_n hx hb d_M_repair_68 rfl (lv_at hl 2 rfl) ?_
          refine lv_iconst (v := nI 0) hx hb d_M_repair_69 rfl ?_
          refine g_callVi (As := [.int (nI (0))]) (rest := [.ref (k 1)]) ⟨hx, hb, hml, hown, hts⟩ (C := R_M) (index := 82) (c_M_headerAt l D k cI n A hn hn2 (d) (cpT d t (cAr n j) 1024) (cpT d mk (cHd n j + 56) 16) (0) (by omega)) (cwV 1 hts (gd_V m_457 m_459 m_16 m_33 m_460) rfl rfl rfl hd_M_headerAt ⟨Nat.le_of_ble_eq_true rfl, Nat.le_of_ble_eq_true rfl⟩) mW_w mX_x hB hP hS (ci := 3) rfl (0) rfl rfl hl.1 rfl (Nat.le_of_ble_eq_true rfl) d_M_repair_70 ⟨Nat.zero_le _, Nat.zero_le _⟩ (fun r_ v_ H locs hw hP hS => ?_)
          obtain ⟨hw1, hw2⟩ := hw; have hw1 := hw1.symm; have hw2 := hw2.symm; subst hw1; subst hw2
          refine lv_bipush (v := nI 56) hx hb d_M_repair_73 rfl ?_
          refine lv_iaddN hx hb d_M_repair_75 ?_
          refine lv_aload_n hx hb d_M_repair_76 rfl (lv_at hl 2 rfl) ?_
          refine va_get (D := D) (ci := 3) (v := .ref (k 1)) (C := R_M) (T := F_M) (N := 4) hx hb hts (fun w h => .tail _ (fi_M w h)) hown hK hP 0 rfl rfl 1 (by decide) (hts _ (.tail _ m_405)) (fun _ h9 => h9) rfl d_M_repair_77 ?_
          refine lv_aload_n hx hb d_M_repair_80 rfl (lv_at hl 2 rfl) ?_
          refine lv_iconst (v := nI 1) hx hb d_M_repair_81 rfl ?_
          refine g_callVi (As := [.int (nI (1))]) (rest := [.ref (k 1), .int (nI ((cHd n 0) + 56)), .ref (k 1)]) ⟨hx, hb, hml, hown, hts⟩ (C := R_M) (index := 82) (c_M_headerAt l D k cI n A hn hn2 (d) (cpT d t (cAr n j) 1024) (cpT d mk (cHd n j + 56) 16) (1) (by omega)) (cwV 1 hts (gd_V m_457 m_459 m_16 m_33 m_460) rfl rfl rfl hd_M_headerAt ⟨Nat.le_of_ble_eq_true rfl, Nat.le_of_ble_eq_true rfl⟩) mW_w mX_x hB hP hS (ci := 3) rfl (0) rfl rfl hl.1 rfl (Nat.le_of_ble_eq_true rfl) d_M_repair_82 ⟨Nat.zero_le _, Nat.zero_le _⟩ (fun r_ v_ H locs hw hP hS => ?_)
          obtain ⟨hw1, hw2⟩ := hw; have hw1 := hw1.symm; have hw2 := hw2.symm; subst hw1; subst hw2
          refine lv_bipush (v := nI 56) hx hb d_M_repair_85 rfl ?_
          refine lv_iaddN hx hb d_M_repair_87 ?_
          refine lv_bipush (v := nI 16) hx hb d_M_repair_88 rfl ?_
          refine g_callSi (As := [.ref (k 1), .int (nI ((cHd n 0) + 56)), .ref (k 1), .int (nI ((cHd n 1) + 56)), .int (nI (16))]) (rest := []) ⟨hx, hb, hml, hown, hts⟩ (index := 78) (c_M_same l D k cI n A hn hn2 (mU (d) (cpT d t (cAr n j) 1024) (cpT d mk (cHd n j + 56) 16)) (1) (by omega) (by omega) (1) (by omega) (by omega) ((cHd n 0) + 56) ((cHd n 1) + 56) (16) (by omega) (by omega)) (cwS 5 hts (gd_S m_501 m_502 m_33 m_503) rfl rfl rfl hd_M_same ⟨Nat.le_of_ble_eq_true rfl, Nat.le_of_ble_eq_true rfl⟩) mW_w mX_x hB hP hS rfl hl.1 rfl (Nat.le_of_ble_eq_true rfl) d_M_repair_90 ⟨Nat.zero_le _, Nat.zero_le _⟩ (fun r_ v_ H locs hw hP hS => ?_)
          obtain ⟨hw1, hw2⟩ := hw; have hw1 : r_ = (bI (alk (d) (d) ((cHd n 0) + 56) ((cHd n 1) + 56) 16)) := hw1; have hw1 := hw1.symm; have hw2 := hw2.symm; subst hw1; subst hw2
          refine lv_if_eq (tgt := 100) hx hb d_M_repair_93 (by decide) (fun c_93 => ?_) (fun c_93 => ?_)
          · have c_93 := bI_0.mp c_93
            refine lv_iconst (v := nI 0) hx hb d_M_repair_100 rfl ?_
            refine lv_istore_n (lv' := [(3, .int (nI (0))), (2, .int (nI (1))), (1, .int (nI (0))), (0, .ref (k 0))]) hx hb d_M_repair_101 rfl hl (by decide) rfl (fun ls hl => ?_)
            refine lv_iload_n hx hb d_M_repair_102 rfl (lv_at hl 2 rfl) ?_
            refine lv_if_ne (tgt := 118) hx hb d_M_repair_103 (by decide) (fun c9 => absurd (by decide) c9) (fun _ => ?_)
            refine lv_iload_n hx hb d_M_repair_106 rfl (lv_at hl 1 rfl) ?_
            refine lv_if_ne (tgt := 118) hx hb d_M_repair_107 (by decide) (fun _ => ?_) (fun c9 => absurd c9 (by decide))
            refine lv_iconst (v := nI 0) hx hb d_M_repair_118 rfl ?_
            refine lv_istore (lv' := [(4, .int (nI (0))), (3, .int (nI (0))), (2, .int (nI (1))), (1, .int (nI (0))), (0, .ref (k 0))]) hx hb d_M_repair_119 hl (by decide) rfl (fun ls hl => ?_)
            refine lv_aload_n hx hb d_M_repair_121 rfl (lv_at hl 4 rfl) ?_
            refine g_callVi (As := []) (rest := []) ⟨hx, hb, hml, hown, hts⟩ (C := R_M) (index := 142) (c_M_guard l D k cI n A hn hn2 (d) (cpT d t (cAr n j) 1024) (cpT d mk (cHd n j + 56) 16) ) (cwV 0 hts (gd_V m_576 m_447 m_448 m_33 m_449) rfl rfl rfl hd_M_guard ⟨Nat.le_of_ble_eq_true rfl, Nat.le_of_ble_eq_true rfl⟩) mW_w mX_x hB hP hS (ci := 3) rfl (0) rfl rfl hl.1 rfl (Nat.le_of_ble_eq_true rfl) d_M_repair_122 ⟨Nat.zero_le _, Nat.zero_le _⟩ (fun r_ v_ H locs hw hP hS => ?_)
            obtain ⟨hw1, hw2⟩ := hw; have hw1 := hw1.symm; have hw2 := hw2.symm; subst hw1; subst hw2
            refine lv_if_eq (tgt := 132) hx hb d_M_repair_125 (by decide) (fun c_125 => ?_) (fun c_125 => ?_)
            · have c_125 := bI_0.mp c_125
              refine lv_iconst (v := nI 1) hx hb d_M_repair_132 rfl ?_
              refine lv_iload_n hx hb d_M_repair_133 rfl (lv_at hl 3 rfl) ?_
              refine lv_if_eq (tgt := 141) hx hb d_M_repair_134 (by decide) (fun _ => ?_) (fun c9 => absurd (by decide) c9)
              refine lv_iconst (v := nI 0) hx hb d_M_repair_141 rfl ?_
              refine lv_iaddN hx hb d_M_repair_142 ?_
              refine lv_iload_n hx hb d_M_repair_143 rfl (lv_at hl 2 rfl) ?_
              refine lv_if_eq (tgt := 151) hx hb d_M_repair_144 (by decide) (fun c9 => absurd c9 (by decide)) (fun _ => ?_)
              refine lv_iconst (v := nI 4) hx hb d_M_repair_147 rfl ?_
              refine lv_goto (tgt := 152) hx hb d_M_repair_148 (by decide) ?_
              refine lv_iaddN hx hb d_M_repair_152 ?_
              refine lv_iload hx hb d_M_repair_153 (lv_at hl 0 rfl) ?_
              refine lv_if_eq (tgt := 163) hx hb d_M_repair_155 (by decide) (fun _ => ?_) (fun c9 => absurd (by decide) c9)
              refine lv_iconst (v := nI 0) hx hb d_M_repair_163 rfl ?_
              refine lv_iaddN hx hb d_M_repair_164 ?_
              refine lv_istore (lv' := [(5, .int (nI (((1 + 0) + 4) + 0))), (4, .int (nI (0))), (3, .int (nI (0))), (2, .int (nI (1))), (1, .int (nI (0))), (0, .ref (k 0))]) hx hb d_M_repair_165 hl (by decide) rfl (fun ls hl => ?_)
              refine lv_aload_n hx hb d_M_repair_167 rfl (lv_at hl 5 rfl) ?_
              refine g_callVi (As := []) (rest := []) ⟨hx, hb, hml, hown, hts⟩ (C := R_M) (index := 142) (c_M_guard l D k cI n A hn hn2 (d) (cpT d t (cAr n j) 1024) (cpT d mk (cHd n j + 56) 16) ) (cwV 0 hts (gd_V m_576 m_447 m_448 m_33 m_449) rfl rfl rfl hd_M_guard ⟨Nat.le_of_ble_eq_true rfl, Nat.le_of_ble_eq_true rfl⟩) mW_w mX_x hB hP hS (ci := 3) rfl (0) rfl rfl hl.1 rfl (Nat.le_of_ble_eq_true rfl) d_M_repair_168 ⟨Nat.zero_le _, Nat.zero_le _⟩ (fun r_ v_ H locs hw hP hS => ?_)
              obtain ⟨hw1, hw2⟩ := hw; have hw1 := hw1.symm; have hw2 := hw2.symm; subst hw1; subst hw2
              refine lv_if_ne (tgt := 178) hx hb d_M_repair_171 (by decide) (fun c9 => absurd (bI_0.mpr c_125) c9) (fun _ => ?_)
              refine lv_aload_n hx hb d_M_repair_174 rfl (lv_at hl 5 rfl) ?_
              refine g_callVv (As := []) (rest := []) ⟨hx, hb, hml, hown, hts⟩ (C := R_M) (index := 117) (c_M_writeGuard l D k cI n A hn hn2 (d) (cpT d t (cAr n j) 1024) (cpT d mk (cHd n j + 56) 16) ) (cwV 0 hts (gd_V m_521 m_523 m_22 m_33 m_524) rfl rfl rfl hd_M_writeGuard ⟨Nat.le_of_ble_eq_true rfl, Nat.le_of_ble_eq_true rfl⟩) mW_w mX_x hB hP hS (ci := 3) rfl (0) rfl rfl hl.1 rfl (Nat.le_of_ble_eq_true rfl) d_M_repair_175 ⟨Nat.zero_le _, Nat.zero_le _⟩ (fun v_ H locs hw hP hS => ?_)
              have hw := hw.symm; subst hw
              refine lv_iload_n hx hb d_M_repair_178 rfl (lv_at hl 4 rfl) ?_
              refine lv_if_ne (tgt := 191) hx hb d_M_repair_179 (by decide) (fun c9 => absurd (by decide) c9) (fun _ => ?_)
              refine lv_iload_n hx hb d_M_repair_182 rfl (lv_at hl 3 rfl) ?_
              refine lv_if_ne (tgt := 191) hx hb d_M_repair_183 (by decide) (fun _ => ?_) (fun c9 => absurd c9 (by decide))
              refine lv_aload_n hx hb d_M_repair_191 rfl (lv_at hl 5 rfl) ?_
              refine g_callVv (As := []) (rest := []) ⟨hx, hb, hml, hown, hts⟩ (C := R_M) (index := 124) (c_M_writeTable l D k cI n A hn hn2 (wGd n d) ((cpT d t (cAr n j) 1024)) ((cpT d mk (cHd n j + 56) 16)) ) (cwV 0 hts (gd_V m_530 m_532 m_23 m_33 m_533) rfl rfl rfl hd_M_writeTable ⟨Nat.le_of_ble_eq_true rfl, Nat.le_of_ble_eq_true rfl⟩) mW_w mX_x hB hP hS (ci := 3) rfl (0) rfl rfl hl.1 rfl (Nat.le_of_ble_eq_true rfl) d_M_repair_192 ⟨Nat.zero_le _, Nat.zero_le _⟩ (fun v_ H locs hw hP hS => ?_)
              have hw := hw.symm; subst hw
              refine lv_iload hx hb d_M_repair_195 (lv_at hl 0 rfl) ?_
              have hjj : j = 0 := by have q := hsr; rw [src, cI_t c_14] at q; exact (Option.some.inj q).symm
              subst hjj
              have e1 : reD n d = wTb n 0 d := by rw [reD, cI_t c_14, cI_f c_28]
              have e2 : reT n d = 4 := by rw [reT, cI_t c_14, cI_f c_28]
              exact g_iret (v := (nI (((1 + 0) + 4) + 0))) hx hb hr hlk mW_w mX_x hB hP hS (by rw [reR, oS_s hsr, e1, e2, cI_f (fun z => c_125 ((gd_wT hn d).mp z))]; exact ⟨rfl, _, _, by rw [wT_takeG hn (by decide)]⟩) d_M_repair_197
            · have c_125 := bI_1 c_125
              refine lv_iconst (v := nI 0) hx hb d_M_repair_128 rfl ?_
              refine lv_goto (tgt := 133) hx hb d_M_repair_129 (by decide) ?_
              refine lv_iload_n hx hb d_M_repair_133 rfl (lv_at hl 3 rfl) ?_
              refine lv_if_eq (tgt := 141) hx hb d_M_repair_134 (by decide) (fun _ => ?_) (fun c9 => absurd (by decide) c9)
              refine lv_iconst (v := nI 0) hx hb d_M_repair_141 rfl ?_
              refine lv_iaddN hx hb d_M_repair_142 ?_
              refine lv_iload_n hx hb d_M_repair_143 rfl (lv_at hl 2 rfl) ?_
              refine lv_if_eq (tgt := 151) hx hb d_M_repair_144 (by decide) (fun c9 => absurd c9 (by decide)) (fun _ => ?_)
              refine lv_iconst (v := nI 4) hx hb d_M_repair_147 rfl ?_
              refine lv_goto (tgt := 152) hx hb d_M_repair_148 (by decide) ?_
              refine lv_iaddN hx hb d_M_repair_152 ?_
              refine lv_iload hx hb d_M_repair_153 (lv_at hl 0 rfl) ?_
              refine lv_if_eq (tgt := 163) hx hb d_M_repair_155 (by decide) (fun _ => ?_) (fun c9 => absurd (by decide) c9)
              refine lv_iconst (v := nI 0) hx hb d_M_repair_163 rfl ?_
              refine lv_iaddN hx hb d_M_repair_164 ?_
              refine lv_istore (lv' := [(5, .int (nI (((0 + 0) + 4) + 0))), (4, .int (nI (0))), (3, .int (nI (0))), (2, .int (nI (1))), (1, .int (nI (0))), (0, .ref (k 0))]) hx hb d_M_repair_165 hl (by decide) rfl (fun ls hl => ?_)
              refine lv_aload_n hx hb d_M_repair_167 rfl (lv_at hl 5 rfl) ?_
              refine g_callVi (As := []) (rest := []) ⟨hx, hb, hml, hown, hts⟩ (C := R_M) (index := 142) (c_M_guard l D k cI n A hn hn2 (d) (cpT d t (cAr n j) 1024) (cpT d mk (cHd n j + 56) 16) ) (cwV 0 hts (gd_V m_576 m_447 m_448 m_33 m_449) rfl rfl rfl hd_M_guard ⟨Nat.le_of_ble_eq_true rfl, Nat.le_of_ble_eq_true rfl⟩) mW_w mX_x hB hP hS (ci := 3) rfl (0) rfl rfl hl.1 rfl (Nat.le_of_ble_eq_true rfl) d_M_repair_168 ⟨Nat.zero_le _, Nat.zero_le _⟩ (fun r_ v_ H locs hw hP hS => ?_)
              obtain ⟨hw1, hw2⟩ := hw; have hw1 := hw1.symm; have hw2 := hw2.symm; subst hw1; subst hw2
              refine lv_if_ne (tgt := 178) hx hb d_M_repair_171 (by decide) (fun _ => ?_) (fun c9 => absurd c9 (fun z => bI_0.mp z c_125))
              refine lv_iload_n hx hb d_M_repair_178 rfl (lv_at hl 4 rfl) ?_
              refine lv_if_ne (tgt := 191) hx hb d_M_repair_179 (by decide) (fun c9 => absurd (by decide) c9) (fun _ => ?_)
              refine lv_iload_n hx hb d_M_repair_182 rfl (lv_at hl 3 rfl) ?_
              refine lv_if_ne (tgt := 191) hx hb d_M_repair_183 (by decide) (fun _ => ?_) (fun c9 => absurd c9 (by decide))
              refine lv_aload_n hx hb d_M_repair_191 rfl (lv_at hl 5 rfl) ?_
              refine g_callVv (As := []) (rest := []) ⟨hx, hb, hml, hown, hts⟩ (C := R_M) (index := 124) (c_M_writeTable l D k cI n A hn hn2 (d) (cpT d t (cAr n j) 1024) (cpT d mk (cHd n j + 56) 16) ) (cwV 0 hts (gd_V m_530 m_532 m_23 m_33 m_533) rfl rfl rfl hd_M_writeTable ⟨Nat.le_of_ble_eq_true rfl, Nat.le_of_ble_eq_true rfl⟩) mW_w mX_x hB hP hS (ci := 3) rfl (0) rfl rfl hl.1 rfl (Nat.le_of_ble_eq_true rfl) d_M_repair_192 ⟨Nat.zero_le _, Nat.zero_le _⟩ (fun v_ H locs hw hP hS => ?_)
              have hw := hw.symm; subst hw
              refine lv_iload hx hb d_M_repair_195 (lv_at hl 0 rfl) ?_
              have hjj : j = 0 := by have q := hsr; rw [src, cI_t c_14] at q; exact (Option.some.inj q).symm
              subst hjj
              have e1 : reD n d = wTb n 0 d := by rw [reD, cI_t c_14, cI_f c_28]
              have e2 : reT n d = 4 := by rw [reT, cI_t c_14, cI_f c_28]
              exact g_iret (v := (nI (((0 + 0) + 4) + 0))) hx hb hr hlk mW_w mX_x hB hP hS (by rw [reR, oS_s hsr, e1, e2, cI_t ((gd_wT hn d).mpr c_125)]; exact ⟨rfl, _, _, by rw [wT_take hn (by decide)]⟩) d_M_repair_197
          · have c_93 := bI_1 c_93
            refine lv_iconst (v := nI 1) hx hb d_M_repair_96 rfl ?_
            refine lv_goto (tgt := 101) hx hb d_M_repair_97 (by decide) ?_
            refine lv_istore_n (lv' := [(3, .int (nI (1))), (2, .int (nI (1))), (1, .int (nI (0))), (0, .ref (k 0))]) hx hb d_M_repair_101 rfl hl (by decide) rfl (fun ls hl => ?_)
            refine lv_iload_n hx hb d_M_repair_102 rfl (lv_at hl 2 rfl) ?_
            refine lv_if_ne (tgt := 118) hx hb d_M_repair_103 (by decide) (fun c9 => absurd (by decide) c9) (fun _ => ?_)
            refine lv_iload_n hx hb d_M_repair_106 rfl (lv_at hl 1 rfl) ?_
            refine lv_if_ne (tgt := 118) hx hb d_M_repair_107 (by decide) (fun _ => ?_) (fun c9 => absurd c9 (by decide))
            refine lv_iconst (v := nI 0) hx hb d_M_repair_118 rfl ?_
            refine lv_istore (lv' := [(4, .int (nI (0))), (3, .int (nI (1))), (2, .int (nI (1))), (1, .int (nI (0))), (0, .ref (k 0))]) hx hb d_M_repair_119 hl (by decide) rfl (fun ls hl => ?_)
            refine lv_aload_n hx hb d_M_repair_121 rfl (lv_at hl 4 rfl) ?_
            refine g_callVi (As := []) (rest := []) ⟨hx, hb, hml, hown, hts⟩ (C := R_M) (index := 142) (c_M_guard l D k cI n A hn hn2 (d) (cpT d t (cAr n j) 1024) (cpT d mk (cHd n j + 56) 16) ) (cwV 0 hts (gd_V m_576 m_447 m_448 m_33 m_449) rfl rfl rfl hd_M_guard ⟨Nat.le_of_ble_eq_true rfl, Nat.le_of_ble_eq_true rfl⟩) mW_w mX_x hB hP hS (ci := 3) rfl (0) rfl rfl hl.1 rfl (Nat.le_of_ble_eq_true rfl) d_M_repair_122 ⟨Nat.zero_le _, Nat.zero_le _⟩ (fun r_ v_ H locs hw hP hS => ?_)
            obtain ⟨hw1, hw2⟩ := hw; have hw1 := hw1.symm; have hw2 := hw2.symm; subst hw1; subst hw2
            refine lv_if_eq (tgt := 132) hx hb d_M_repair_125 (by decide) (fun c_125 => ?_) (fun c_125 => ?_)
            · have c_125 := bI_0.mp c_125
              refine lv_iconst (v := nI 1) hx hb d_M_repair_132 rfl ?_
              refine lv_iload_n hx hb d_M_repair_133 rfl (lv_at hl 3 rfl) ?_
              refine lv_if_eq (tgt := 141) hx hb d_M_repair_134 (by decide) (fun _ => ?_) (fun c9 => absurd (by decide) c9)
              refine lv_iconst (v := nI 0) hx hb d_M_repair_141 rfl ?_
              refine lv_iaddN hx hb d_M_repair_142 ?_
              refine lv_iload_n hx hb d_M_repair_143 rfl (lv_at hl 2 rfl) ?_
              refine lv_if_eq (tgt := 151) hx hb d_M_repair_144 (by decide) (fun c9 => absurd c9 (by decide)) (fun _ => ?_)
              refine lv_iconst (v := nI 4) hx hb d_M_repair_147 rfl ?_
              refine lv_goto (tgt := 152) hx hb d_M_repair_148 (by decide) ?_
              refine lv_iaddN hx hb d_M_repair_152 ?_
              refine lv_iload hx hb d_M_repair_153 (lv_at hl 0 rfl) ?_
              refine lv_if_eq (tgt := 163) hx hb d_M_repair_155 (by decide) (fun _ => ?_) (fun c9 => absurd (by decide) c9)
              refine lv_iconst (v := nI 0) hx hb d_M_repair_163 rfl ?_
              refine lv_iaddN hx hb d_M_repair_164 ?_
              refine lv_istore (lv' := [(5, .int (nI (((1 + 0) + 4) + 0))), (4, .int (nI (0))), (3, .int (nI (1))), (2, .int (nI (1))), (1, .int (nI (0))), (0, .ref (k 0))]) hx hb d_M_repair_165 hl (by decide) rfl (fun ls hl => ?_)
              refine lv_aload_n hx hb d_M_repair_167 rfl (lv_at hl 5 rfl) ?_
              refine g_callVi (As := []) (rest := []) ⟨hx, hb, hml, hown, hts⟩ (C := R_M) (index := 142) (c_M_guard l D k cI n A hn hn2 (d) (cpT d t (cAr n j) 1024) (cpT d mk (cHd n j + 56) 16) ) (cwV 0 hts (gd_V m_576 m_447 m_448 m_33 m_449) rfl rfl rfl hd_M_guard ⟨Nat.le_of_ble_eq_true rfl, Nat.le_of_ble_eq_true rfl⟩) mW_w mX_x hB hP hS (ci := 3) rfl (0) rfl rfl hl.1 rfl (Nat.le_of_ble_eq_true rfl) d_M_repair_168 ⟨Nat.zero_le _, Nat.zero_le _⟩ (fun r_ v_ H locs hw hP hS => ?_)
              obtain ⟨hw1, hw2⟩ := hw; have hw1 := hw1.symm; have hw2 := hw2.symm; subst hw1; subst hw2
              refine lv_if_ne (tgt := 178) hx hb d_M_repair_171 (by decide) (fun c9 => absurd (bI_0.mpr c_125) c9) (fun _ => ?_)
              refine lv_aload_n hx hb d_M_repair_174 rfl (lv_at hl 5 rfl) ?_
              refine g_callVv (As := []) (rest := []) ⟨hx, hb, hml, hown, hts⟩ (C := R_M) (index := 117) (c_M_writeGuard l D k cI n A hn hn2 (d) (cpT d t (cAr n j) 1024) (cpT d mk (cHd n j + 56) 16) ) (cwV 0 hts (gd_V m_521 m_523 m_22 m_33 m_524) rfl rfl rfl hd_M_writeGuard ⟨Nat.le_of_ble_eq_true rfl, Nat.le_of_ble_eq_true rfl⟩) mW_w mX_x hB hP hS (ci := 3) rfl (0) rfl rfl hl.1 rfl (Nat.le_of_ble_eq_true rfl) d_M_repair_175 ⟨Nat.zero_le _, Nat.zero_le _⟩ (fun v_ H locs hw hP hS => ?_)
              have hw := hw.symm; subst hw
              refine lv_iload_n hx hb d_M_repair_178 rfl (lv_at hl 4 rfl) ?_
              refine lv_if_ne (tgt := 191) hx hb d_M_repair_179 (by decide) (fun c9 => absurd (by decide) c9) (fun _ => ?_)
              refine lv_iload_n hx hb d_M_repair_182 rfl (lv_at hl 3 rfl) ?_
              refine lv_if_ne (tgt := 191) hx hb d_M_repair_183 (by decide) (fun _ => ?_) (fun c9 => absurd c9 (by decide))
              refine lv_aload_n hx hb d_M_repair_191 rfl (lv_at hl 5 rfl) ?_
              refine g_callVv (As := []) (rest := []) ⟨hx, hb, hml, hown, hts⟩ (C := R_M) (index := 124) (c_M_writeTable l D k cI n A hn hn2 (wGd n d) ((cpT d t (cAr n j) 1024)) ((cpT d mk (cHd n j + 56) 16)) ) (cwV 0 hts (gd_V m_530 m_532 m_23 m_33 m_533) rfl rfl rfl hd_M_writeTable ⟨Nat.le_of_ble_eq_true rfl, Nat.le_of_ble_eq_true rfl⟩) mW_w mX_x hB hP hS (ci := 3) rfl (0) rfl rfl hl.1 rfl (Nat.le_of_ble_eq_true rfl) d_M_repair_192 ⟨Nat.zero_le _, Nat.zero_le _⟩ (fun v_ H locs hw hP hS => ?_)
              have hw := hw.symm; subst hw
              refine lv_iload hx hb d_M_repair_195 (lv_at hl 0 rfl) ?_
              have hjj : j = 0 := by have q := hsr; rw [src, cI_t c_14] at q; exact (Option.some.inj q).symm
              subst hjj
              have e1 : reD n d = wTb n 0 d := by rw [reD, cI_t c_14, cI_f c_28]
              have e2 : reT n d = 4 := by rw [reT, cI_t c_14, cI_f c_28]
              exact g_iret (v := (nI (((1 + 0) + 4) + 0))) hx hb hr hlk mW_w mX_x hB hP hS (by rw [reR, oS_s hsr, e1, e2, cI_f (fun z => c_125 ((gd_wT hn d).mp z))]; exact ⟨rfl, _, _, by rw [wT_takeG hn (by decide)]⟩) d_M_repair_197
            · have c_125 := bI_1 c_125
              refine lv_iconst (v := nI 0) hx hb d_M_repair_128 rfl ?_
              refine lv_goto (tgt := 133) hx hb d_M_repair_129 (by decide) ?_
              refine lv_iload_n hx hb d_M_repair_133 rfl (lv_at hl 3 rfl) ?_
              refine lv_if_eq (tgt := 141) hx hb d_M_repair_134 (by decide) (fun _ => ?_) (fun c9 => absurd (by decide) c9)
              refine lv_iconst (v := nI 0) hx hb d_M_repair_141 rfl ?_
              refine lv_iaddN hx hb d_M_repair_142 ?_
              refine lv_iload_n hx hb d_M_repair_143 rfl (lv_at hl 2 rfl) ?_
              refine lv_if_eq (tgt := 151) hx hb d_M_repair_144 (by decide) (fun c9 => absurd c9 (by decide)) (fun _ => ?_)
              refine lv_iconst (v := nI 4) hx hb d_M_repair_147 rfl ?_
              refine lv_goto (tgt := 152) hx hb d_M_repair_148 (by decide) ?_
              refine lv_iaddN hx hb d_M_repair_152 ?_
              refine lv_iload hx hb d_M_repair_153 (lv_at hl 0 rfl) ?_
              refine lv_if_eq (tgt := 163) hx hb d_M_repair_155 (by decide) (fun _ => ?_) (fun c9 => absurd (by decide) c9)
              refine lv_iconst (v := nI 0) hx hb d_M_repair_163 rfl ?_
              refine lv_iaddN hx hb d_M_repair_164 ?_
              refine lv_istore (lv' := [(5, .int (nI (((0 + 0) + 4) + 0))), (4, .int (nI (0))), (3, .int (nI (1))), (2, .int (nI (1))), (1, .int (nI (0))), (0, .ref (k 0))]) hx hb d_M_repair_165 hl (by decide) rfl (fun ls hl => ?_)
              refine lv_aload_n hx hb d_M_repair_167 rfl (lv_at hl 5 rfl) ?_
              refine g_callVi (As := []) (rest := []) ⟨hx, hb, hml, hown, hts⟩ (C := R_M) (index := 142) (c_M_guard l D k cI n A hn hn2 (d) (cpT d t (cAr n j) 1024) (cpT d mk (cHd n j + 56) 16) ) (cwV 0 hts (gd_V m_576 m_447 m_448 m_33 m_449) rfl rfl rfl hd_M_guard ⟨Nat.le_of_ble_eq_true rfl, Nat.le_of_ble_eq_true rfl⟩) mW_w mX_x hB hP hS (ci := 3) rfl (0) rfl rfl hl.1 rfl (Nat.le_of_ble_eq_true rfl) d_M_repair_168 ⟨Nat.zero_le _, Nat.zero_le _⟩ (fun r_ v_ H locs hw hP hS => ?_)
              obtain ⟨hw1, hw2⟩ := hw; have hw1 := hw1.symm; have hw2 := hw2.symm; subst hw1; subst hw2
              refine lv_if_ne (tgt := 178) hx hb d_M_repair_171 (by decide) (fun _ => ?_) (fun c9 => absurd c9 (fun z => bI_0.mp z c_125))
              refine lv_iload_n hx hb d_M_repair_178 rfl (lv_at hl 4 rfl) ?_
              refine lv_if_ne (tgt := 191) hx hb d_M_repair_179 (by decide) (fun c9 => absurd (by decide) c9) (fun _ => ?_)
              refine lv_iload_n hx hb d_M_repair_182 rfl (lv_at hl 3 rfl) ?_
              refine lv_if_ne (tgt := 191) hx hb d_M_repair_183 (by decide) (fun _ => ?_) (fun c9 => absurd c9 (by decide))
              refine lv_aload_n hx hb d_M_repair_191 rfl (lv_at hl 5 rfl) ?_
              refine g_callVv (As := []) (rest := []) ⟨hx, hb, hml, hown, hts⟩ (C := R_M) (index := 124) (c_M_writeTable l D k cI n A hn hn2 (d) (cpT d t (cAr n j) 1024) (cpT d mk (cHd n j + 56) 16) ) (cwV 0 hts (gd_V m_530 m_532 m_23 m_33 m_533) rfl rfl rfl hd_M_writeTable ⟨Nat.le_of_ble_eq_true rfl, Nat.le_of_ble_eq_true rfl⟩) mW_w mX_x hB hP hS (ci := 3) rfl (0) rfl rfl hl.1 rfl (Nat.le_of_ble_eq_true rfl) d_M_repair_192 ⟨Nat.zero_le _, Nat.zero_le _⟩ (fun v_ H locs hw hP hS => ?_)
              have hw := hw.symm; subst hw
              refine lv_iload hx hb d_M_repair_195 (lv_at hl 0 rfl) ?_
              have hjj : j = 0 := by have q := hsr; rw [src, cI_t c_14] at q; exact (Option.some.inj q).symm
              subst hjj
              have e1 : reD n d = wTb n 0 d := by rw [reD, cI_t c_14, cI_f c_28]
              have e2 : reT n d = 4 := by rw [reT, cI_t c_14, cI_f c_28]
              exact g_iret (v := (nI (((0 + 0) + 4) + 0))) hx hb hr hlk mW_w mX_x hB hP hS (by rw [reR, oS_s hsr, e1, e2, cI_t ((gd_wT hn d).mpr c_125)]; exact ⟨rfl, _, _, by rw [wT_take hn (by decide)]⟩) d_M_repair_197
    · refine lv_iconst (v := nI 1) hx hb d_M_repair_17 rfl ?_
      refine lv_goto (tgt := 22) hx hb d_M_repair_18 (by decide) ?_
      refine lv_istore_n (lv' := [(1, .int (nI (1))), (0, .ref (k 0))]) hx hb d_M_repair_22 rfl hl (by decide) rfl (fun ls hl => ?_)
      refine lv_aload_n hx hb d_M_repair_23 rfl (lv_at hl 1 rfl) ?_
      refine lv_iconst (v := nI 1) hx hb d_M_repair_24 rfl ?_
      refine g_callVi (As := [.int (nI (1))]) (rest := []) ⟨hx, hb, hml, hown, hts⟩ (C := R_M) (index := 103) (c_M_faultJ l D k cI n A hn hn2 (d) (cpT d t (cAr n j) 1024) (cpT d mk (cHd n j + 56) 16) (1) (by omega)) (cwV 1 hts (gd_V m_508 m_454 m_455 m_33 m_456) rfl rfl rfl hd_M_fault ⟨Nat.le_of_ble_eq_true rfl, Nat.le_of_ble_eq_true rfl⟩) mW_w mX_x hB hP hS (ci := 3) rfl (0) rfl rfl hl.1 rfl (Nat.le_of_ble_eq_true rfl) d_M_repair_25 ⟨Nat.zero_le _, Nat.zero_le _⟩ (fun r_ v_ H locs hw hP hS => ?_)
      obtain ⟨hw1, hw2⟩ := hw; have hw1 := hw1.symm; have hw2 := hw2.symm; subst hw1; subst hw2
      refine lv_if_eq (tgt := 35) hx hb d_M_repair_28 (by decide) (fun c_28 => ?_) (fun c_28 => ?_)
      · refine lv_iconst (v := nI 0) hx hb d_M_repair_35 rfl ?_
        refine lv_istore_n (lv' := [(2, .int (nI (0))), (1, .int (nI (1))), (0, .ref (k 0))]) hx hb d_M_repair_36 rfl hl (by decide) rfl (fun ls hl => ?_)
        refine lv_aload_n hx hb d_M_repair_37 rfl (lv_at hl 2 rfl) ?_
        refine va_get (D := D) (ci := 3) (v := .ref (k 1)) (C := R_M) (T := F_M) (N := 4) hx hb hts (fun w h => .tail _ (fi_M w h)) hown hK hP 0 rfl rfl 1 (by decide) (hts _ (.tail _ m_405)) (fun _ h9 => h9) rfl d_M_repair_38 ?_
        refine lv_aload_n hx hb d_M_repair_41 rfl (lv_at hl 2 rfl) ?_
        refine lv_iconst (v := nI 0) hx hb d_M_repair_42 rfl ?_
        refine g_callVi (As := [.int (nI (0))]) (rest := [.ref (k 1)]) ⟨hx, hb, hml, hown, hts⟩ (C := R_M) (index := 96) (c_M_arrayAt l D k cI n A hn hn2 (d) (cpT d t (cAr n j) 1024) (cpT d mk (cHd n j + 56) 16) (0) (by omega)) (cwV 1 hts (gd_V m_477 m_479 m_19 m_33 m_480) rfl rfl rfl hd_M_arrayAt ⟨Nat.le_of_ble_eq_true rfl, Nat.le_of_ble_eq_true rfl⟩) mW_w mX_x hB hP hS (ci := 3) rfl (0) rfl rfl hl.1 rfl (Nat.le_of_ble_eq_true rfl) d_M_repair_43 ⟨Nat.zero_le _, Nat.zero_le _⟩ (fun r_ v_ H locs hw hP hS => ?_)
        obtain ⟨hw1, hw2⟩ := hw; have hw1 := hw1.symm; have hw2 := hw2.symm; subst hw1; subst hw2
        refine lv_aload_n hx hb d_M_repair_46 rfl (lv_at hl 2 rfl) ?_
        refine va_get (D := D) (ci := 3) (v := .ref (k 1)) (C := R_M) (T := F_M) (N := 4) hx hb hts (fun w h => .tail _ (fi_M w h)) hown hK hP 0 rfl rfl 1 (by decide) (hts _ (.tail _ m_405)) (fun _ h9 => h9) rfl d_M_repair_47 ?_
        refine lv_aload_n hx hb d_M_repair_50 rfl (lv_at hl 2 rfl) ?_
        refine lv_iconst (v := nI 1) hx hb d_M_repair_51 rfl ?_
        refine g_callVi (As := [.int (nI (1))]) (rest := [.ref (k 1), .int (nI (cAr n 0)), .ref (k 1)]) ⟨hx, hb, hml, hown, hts⟩ (C := R_M) (index := 96) (c_M_arrayAt l D k cI n A hn hn2 (d) (cpT d t (cAr n j) 1024) (cpT d mk (cHd n j + 56) 16) (1) (by omega)) (cwV 1 hts (gd_V m_477 m_479 m_19 m_33 m_480) rfl rfl rfl hd_M_arrayAt ⟨Nat.le_of_ble_eq_true rfl, Nat.le_of_ble_eq_true rfl⟩) mW_w mX_x hB hP hS (ci := 3) rfl (0) rfl rfl hl.1 rfl (Nat.le_of_ble_eq_true rfl) d_M_repair_52 ⟨Nat.zero_le _, Nat.zero_le _⟩ (fun r_ v_ H locs hw hP hS => ?_)
        obtain ⟨hw1, hw2⟩ := hw; have hw1 := hw1.symm; have hw2 := hw2.symm; subst hw1; subst hw2
        refine lv_sipush (v := nI 1024) hx hb d_M_repair_55 rfl ?_
        refine g_callSi (As := [.ref (k 1), .int (nI (cAr n 0)), .ref (k 1), .int (nI (cAr n 1)), .int (nI (1024))]) (rest := []) ⟨hx, hb, hml, hown, hts⟩ (index := 78) (c_M_same l D k cI n A hn hn2 (mU (d) (cpT d t (cAr n j) 1024) (cpT d mk (cHd n j + 56) 16)) (1) (by omega) (by omega) (1) (by omega) (by omega) (cAr n 0) (cAr n 1) (1024) (by omega) (by omega)) (cwS 5 hts (gd_S m_501 m_502 m_33 m_503) rfl rfl rfl hd_M_same ⟨Nat.le_of_ble_eq_true rfl, Nat.le_of_ble_eq_true rfl⟩) mW_w mX_x hB hP hS rfl hl.1 rfl (Nat.le_of_ble_eq_true rfl) d_M_repair_58 ⟨Nat.zero_le _, Nat.zero_le _⟩ (fun r_ v_ H locs hw hP hS => ?_)
        obtain ⟨hw1, hw2⟩ := hw; have hw1 : r_ = (bI (alk (d) (d) (cAr n 0) (cAr n 1) 1024)) := hw1; have hw1 := hw1.symm; have hw2 := hw2.symm; subst hw1; subst hw2
        refine lv_if_eq (tgt := 100) hx hb d_M_repair_61 (by decide) (fun c_61 => ?_) (fun c_61 => ?_)
        · have c_61 := bI_0.mp c_61
          refine lv_iconst (v := nI 0) hx hb d_M_repair_100 rfl ?_
          refine lv_istore_n (lv' := [(3, .int (nI (0))), (2, .int (nI (0))), (1, .int (nI (1))), (0, .ref (k 0))]) hx hb d_M_repair_101 rfl hl (by decide) rfl (fun ls hl => ?_)
          refine lv_iload_n hx hb d_M_repair_102 rfl (lv_at hl 2 rfl) ?_
          refine lv_if_ne (tgt := 118) hx hb d_M_repair_103 (by decide) (fun _ => ?_) (fun c9 => absurd c9 (by decide))
          refine lv_iconst (v := nI 0) hx hb d_M_repair_118 rfl ?_
          refine lv_istore (lv' := [(4, .int (nI (0))), (3, .int (nI (0))), (2, .int (nI (0))), (1, .int (nI (1))), (0, .ref (k 0))]) hx hb d_M_repair_119 hl (by decide) rfl (fun ls hl => ?_)
          refine lv_aload_n hx hb d_M_repair_121 rfl (lv_at hl 4 rfl) ?_
          refine g_callVi (As := []) (rest := []) ⟨hx, hb, hml, hown, hts⟩ (C := R_M) (index := 142) (c_M_guard l D k cI n A hn hn2 (d) (cpT d t (cAr n j) 1024) (cpT d mk (cHd n j + 56) 16) ) (cwV 0 hts (gd_V m_576 m_447 m_448 m_33 m_449) rfl rfl rfl hd_M_guard ⟨Nat.le_of_ble_eq_true rfl, Nat.le_of_ble_eq_true rfl⟩) mW_w mX_x hB hP hS (ci := 3) rfl (0) rfl rfl hl.1 rfl (Nat.le_of_ble_eq_true rfl) d_M_repair_122 ⟨Nat.zero_le _, Nat.zero_le _⟩ (fun r_ v_ H locs hw hP hS => ?_)
          obtain ⟨hw1, hw2⟩ := hw; have hw1 := hw1.symm; have hw2 := hw2.symm; subst hw1; subst hw2
          refine lv_if_eq (tgt := 132) hx hb d_M_repair_125 (by decide) (fun c_125 => ?_) (fun c_125 => ?_)
          · have c_125 := bI_0.mp c_125
            refine lv_iconst (v := nI 1) hx hb d_M_repair_132 rfl ?_
            refine lv_iload_n hx hb d_M_repair_133 rfl (lv_at hl 3 rfl) ?_
            refine lv_if_eq (tgt := 141) hx hb d_M_repair_134 (by decide) (fun c9 => absurd c9 (by decide)) (fun _ => ?_)
            refine lv_iconst (v := nI 2) hx hb d_M_repair_137 rfl ?_
            refine lv_goto (tgt := 142) hx hb d_M_repair_138 (by decide) ?_
            refine lv_iaddN hx hb d_M_repair_142 ?_
            refine lv_iload_n hx hb d_M_repair_143 rfl (lv_at hl 2 rfl) ?_
            refine lv_if_eq (tgt := 151) hx hb d_M_repair_144 (by decide) (fun _ => ?_) (fun c9 => absurd (by decide) c9)
            refine lv_iconst (v := nI 0) hx hb d_M_repair_151 rfl ?_
            refine lv_iaddN hx hb d_M_repair_152 ?_
            refine lv_iload hx hb d_M_repair_153 (lv_at hl 0 rfl) ?_
            refine lv_if_eq (tgt := 163) hx hb d_M_repair_155 (by decide) (fun _ => ?_) (fun c9 => absurd (by decide) c9)
            refine lv_iconst (v := nI 0) hx hb d_M_repair_163 rfl ?_
            refine lv_iaddN hx hb d_M_repair_164 ?_
            refine lv_istore (lv' := [(5, .int (nI (((1 + 2) + 0) + 0))), (4, .int (nI (0))), (3, .int (nI (0))), (2, .int (nI (0))), (1, .int (nI (1))), (0, .ref (k 0))]) hx hb d_M_repair_165 hl (by decide) rfl (fun ls hl => ?_)
            refine lv_aload_n hx hb d_M_repair_167 rfl (lv_at hl 5 rfl) ?_
            refine g_callVi (As := []) (rest := []) ⟨hx, hb, hml, hown, hts⟩ (C := R_M) (index := 142) (c_M_guard l D k cI n A hn hn2 (d) (cpT d t (cAr n j) 1024) (cpT d mk (cHd n j + 56) 16) ) (cwV 0 hts (gd_V m_576 m_447 m_448 m_33 m_449) rfl rfl rfl hd_M_guard ⟨Nat.le_of_ble_eq_true rfl, Nat.le_of_ble_eq_true rfl⟩) mW_w mX_x hB hP hS (ci := 3) rfl (0) rfl rfl hl.1 rfl (Nat.le_of_ble_eq_true rfl) d_M_repair_168 ⟨Nat.zero_le _, Nat.zero_le _⟩ (fun r_ v_ H locs hw hP hS => ?_)
            obtain ⟨hw1, hw2⟩ := hw; have hw1 := hw1.symm; have hw2 := hw2.symm; subst hw1; subst hw2
            refine lv_if_ne (tgt := 178) hx hb d_M_repair_171 (by decide) (fun c9 => absurd (bI_0.mpr c_125) c9) (fun _ => ?_)
            refine lv_aload_n hx hb d_M_repair_174 rfl (lv_at hl 5 rfl) ?_
            refine g_callVv (As := []) (rest := []) ⟨hx, hb, hml, hown, hts⟩ (C := R_M) (index := 117) (c_M_writeGuard l D k cI n A hn hn2 (d) (cpT d t (cAr n j) 1024) (cpT d mk (cHd n j + 56) 16) ) (cwV 0 hts (gd_V m_521 m_523 m_22 m_33 m_524) rfl rfl rfl hd_M_writeGuard ⟨Nat.le_of_ble_eq_true rfl, Nat.le_of_ble_eq_true rfl⟩) mW_w mX_x hB hP hS (ci := 3) rfl (0) rfl rfl hl.1 rfl (Nat.le_of_ble_eq_true rfl) d_M_repair_175 ⟨Nat.zero_le _, Nat.zero_le _⟩ (fun v_ H locs hw hP hS => ?_)
            have hw := hw.symm; subst hw
            refine lv_iload_n hx hb d_M_repair_178 rfl (lv_at hl 4 rfl) ?_
            refine lv_if_ne (tgt := 191) hx hb d_M_repair_179 (by decide) (fun _ => ?_) (fun c9 => absurd c9 (by decide))
            refine lv_aload_n hx hb d_M_repair_191 rfl (lv_at hl 5 rfl) ?_
            refine g_callVv (As := []) (rest := []) ⟨hx, hb, hml, hown, hts⟩ (C := R_M) (index := 124) (c_M_writeTable l D k cI n A hn hn2 (wGd n d) ((cpT d t (cAr n j) 1024)) ((cpT d mk (cHd n j + 56) 16)) ) (cwV 0 hts (gd_V m_530 m_532 m_23 m_33 m_533) rfl rfl rfl hd_M_writeTable ⟨Nat.le_of_ble_eq_true rfl, Nat.le_of_ble_eq_true rfl⟩) mW_w mX_x hB hP hS (ci := 3) rfl (0) rfl rfl hl.1 rfl (Nat.le_of_ble_eq_true rfl) d_M_repair_192 ⟨Nat.zero_le _, Nat.zero_le _⟩ (fun v_ H locs hw hP hS => ?_)
            have hw := hw.symm; subst hw
            refine lv_iload hx hb d_M_repair_195 (lv_at hl 0 rfl) ?_
            have hjj : j = 1 := by have q := hsr; rw [src, cI_f c_14, cI_t c_28] at q; exact (Option.some.inj q).symm
            subst hjj
            have e1 : reD n d = wTb n 1 d := by rw [reD, cI_f c_14]
            have e2 : reT n d = 2 := by rw [reT, cI_f c_14]
            exact g_iret (v := (nI (((1 + 2) + 0) + 0))) hx hb hr hlk mW_w mX_x hB hP hS (by rw [reR, oS_s hsr, e1, e2, cI_f (fun z => c_125 ((gd_wT hn d).mp z))]; exact ⟨rfl, _, _, by rw [wT_takeG hn (by decide)]⟩) d_M_repair_197
          · have c_125 := bI_1 c_125
            refine lv_iconst (v := nI 0) hx hb d_M_repair_128 rfl ?_
            refine lv_goto (tgt := 133) hx hb d_M_repair_129 (by decide) ?_
            refine lv_iload_n hx hb d_M_repair_133 rfl (lv_at hl 3 rfl) ?_
            refine lv_if_eq (tgt := 141) hx hb d_M_repair_134 (by decide) (fun c9 => absurd c9 (by decide)) (fun _ => ?_)
            refine lv_iconst (v := nI 2) hx hb d_M_repair_137 rfl ?_
            refine lv_goto (tgt := 142) hx hb d_M_repair_138 (by decide) ?_
            refine lv_iaddN hx hb d_M_repair_142 ?_
            refine lv_iload_n hx hb d_M_repair_143 rfl (lv_at hl 2 rfl) ?_
            refine lv_if_eq (tgt := 151) hx hb d_M_repair_144 (by decide) (fun _ => ?_) (fun c9 => absurd (by decide) c9)
            refine lv_iconst (v := nI 0) hx hb d_M_repair_151 rfl ?_
            refine lv_iaddN hx hb d_M_repair_152 ?_
            refine lv_iload hx hb d_M_repair_153 (lv_at hl 0 rfl) ?_
            refine lv_if_eq (tgt := 163) hx hb d_M_repair_155 (by decide) (fun _ => ?_) (fun c9 => absurd (by decide) c9)
            refine lv_iconst (v := nI 0) hx hb d_M_repair_163 rfl ?_
            refine lv_iaddN hx hb d_M_repair_164 ?_
            refine lv_istore (lv' := [(5, .int (nI (((0 + 2) + 0) + 0))), (4, .int (nI (0))), (3, .int (nI (0))), (2, .int (nI (0))), (1, .int (nI (1))), (0, .ref (k 0))]) hx hb d_M_repair_165 hl (by decide) rfl (fun ls hl => ?_)
            refine lv_aload_n hx hb d_M_repair_167 rfl (lv_at hl 5 rfl) ?_
            refine g_callVi (As := []) (rest := []) ⟨hx, hb, hml, hown, hts⟩ (C := R_M) (index := 142) (c_M_guard l D k cI n A hn hn2 (d) (cpT d t (cAr n j) 1024) (cpT d mk (cHd n j + 56) 16) ) (cwV 0 hts (gd_V m_576 m_447 m_448 m_33 m_449) rfl rfl rfl hd_M_guard ⟨Nat.le_of_ble_eq_true rfl, Nat.le_of_ble_eq_true rfl⟩) mW_w mX_x hB hP hS (ci := 3) rfl (0) rfl rfl hl.1 rfl (Nat.le_of_ble_eq_true rfl) d_M_repair_168 ⟨Nat.zero_le _, Nat.zero_le _⟩ (fun r_ v_ H locs hw hP hS => ?_)
            obtain ⟨hw1, hw2⟩ := hw; have hw1 := hw1.symm; have hw2 := hw2.symm; subst hw1; subst hw2
            refine lv_if_ne (tgt := 178) hx hb d_M_repair_171 (by decide) (fun _ => ?_) (fun c9 => absurd c9 (fun z => bI_0.mp z c_125))
            refine lv_iload_n hx hb d_M_repair_178 rfl (lv_at hl 4 rfl) ?_
            refine lv_if_ne (tgt := 191) hx hb d_M_repair_179 (by decide) (fun _ => ?_) (fun c9 => absurd c9 (by decide))
            refine lv_aload_n hx hb d_M_repair_191 rfl (lv_at hl 5 rfl) ?_
            refine g_callVv (As := []) (rest := []) ⟨hx, hb, hml, hown, hts⟩ (C := R_M) (index := 124) (c_M_writeTable l D k cI n A hn hn2 (d) (cpT d t (cAr n j) 1024) (cpT d mk (cHd n j + 56) 16) ) (cwV 0 hts (gd_V m_530 m_532 m_23 m_33 m_533) rfl rfl rfl hd_M_writeTable ⟨Nat.le_of_ble_eq_true rfl, Nat.le_of_ble_eq_true rfl⟩) mW_w mX_x hB hP hS (ci := 3) rfl (0) rfl rfl hl.1 rfl (Nat.le_of_ble_eq_true rfl) d_M_repair_192 ⟨Nat.zero_le _, Nat.zero_le _⟩ (fun v_ H locs hw hP hS => ?_)
            have hw := hw.symm; subst hw
            refine lv_iload hx hb d_M_repair_195 (lv_at hl 0 rfl) ?_
            have hjj : j = 1 := by have q := hsr; rw [src, cI_f c_14, cI_t c_28] at q; exact (Option.some.inj q).symm
            subst hjj
            have e1 : reD n d = wTb n 1 d := by rw [reD, cI_f c_14]
            have e2 : reT n d = 2 := by rw [reT, cI_f c_14]
            exact g_iret (v := (nI (((0 + 2) + 0) + 0))) hx hb hr hlk mW_w mX_x hB hP hS (by rw [reR, oS_s hsr, e1, e2, cI_t ((gd_wT hn d).mpr c_125)]; exact ⟨rfl, _, _, by rw [wT_take hn (by decide)]⟩) d_M_repair_197
        · have c_61 := bI_1 c_61
          refine lv_aload_n hx hb d_M_repair_64 rfl (lv_at hl 2 rfl) ?_
          refine va_get (D := D) (ci := 3) (v := .ref (k 1)) (C := R_M) (T := F_M) (N := 4) hx hb hts (fun w h => .tail _ (fi_M w h)) hown hK hP 0 rfl rfl 1 (by decide) (hts _ (.tail _ m_405)) (fun _ h9 => h9) rfl d_M_repair_65 ?_
          refine lv_aload_n hx hb d_M_repair_68 rfl (lv_at hl 2 rfl) ?_
          refine lv_iconst (v := nI 0) hx hb d_M_repair_69 rfl ?_
          refine g_callVi (As := [.int (nI (0))]) (rest := [.ref (k 1)]) ⟨hx, hb, hml, hown, hts⟩ (C := R_M) (index := 82) (c_M_headerAt l D k cI n A hn hn2 (d) (cpT d t (cAr n j) 1024) (cpT d mk (cHd n j + 56) 16) (0) (by omega)) (cwV 1 hts (gd_V m_457 m_459 m_16 m_33 m_460) rfl rfl rfl hd_M_headerAt ⟨Nat.le_of_ble_eq_true rfl, Nat.le_of_ble_eq_true rfl⟩) mW_w mX_x hB hP hS (ci := 3) rfl (0) rfl rfl hl.1 rfl (Nat.le_of_ble_eq_true rfl) d_M_repair_70 ⟨Nat.zero_le _, Nat.zero_le _⟩ (fun r_ v_ H locs hw hP hS => ?_)
          obtain ⟨hw1, hw2⟩ := hw; have hw1 := hw1.symm; have hw2 := hw2.symm; subst hw1; subst hw2
          refine lv_bipush (v := nI 56) hx hb d_M_repair_73 rfl ?_
          refine lv_iaddN hx hb d_M_repair_75 ?_
          refine lv_aload_n hx hb d_M_repair_76 rfl (lv_at hl 2 rfl) ?_
          refine va_get (D := D) (ci := 3) (v := .ref (k 1)) (C := R_M) (T := F_M) (N := 4) hx hb hts (fun w h => .tail _ (fi_M w h)) hown hK hP 0 rfl rfl 1 (by decide) (hts _ (.tail _ m_405)) (fun _ h9 => h9) rfl d_M_repair_77 ?_
          refine lv_aload_n hx hb d_M_repair_80 rfl (lv_at hl 2 rfl) ?_
          refine lv_iconst (v := nI 1) hx hb d_M_repair_81 rfl ?_
          refine g_callVi (As := [.int (nI (1))]) (rest := [.ref (k 1), .int (nI ((cHd n 0) + 56)), .ref (k 1)]) ⟨hx, hb, hml, hown, hts⟩ (C := R_M) (index := 82) (c_M_headerAt l D k cI n A hn hn2 (d) (cpT d t (cAr n j) 1024) (cpT d mk (cHd n j + 56) 16) (1) (by omega)) (cwV 1 hts (gd_V m_457 m_459 m_16 m_33 m_460) rfl rfl rfl hd_M_headerAt ⟨Nat.le_of_ble_eq_true rfl, Nat.le_of_ble_eq_true rfl⟩) mW_w mX_x hB hP hS (ci := 3) rfl (0) rfl rfl hl.1 rfl (Nat.le_of_ble_eq_true rfl) d_M_repair_82 ⟨Nat.zero_le _, Nat.zero_le _⟩ (fun r_ v_ H locs hw hP hS => ?_)
          obtain ⟨hw1, hw2⟩ := hw; have hw1 := hw1.symm; have hw2 := hw2.symm; subst hw1; subst hw2
          refine lv_bipush (v := nI 56) hx hb d_M_repair_85 rfl ?_
          refine lv_iaddN hx hb d_M_repair_87 ?_
          refine lv_bipush (v := nI 16) hx hb d_M_repair_88 rfl ?_
          refine g_callSi (As := [.ref (k 1), .int (nI ((cHd n 0) + 56)), .ref (k 1), .int (nI ((cHd n 1) + 56)), .int (nI (16))]) (rest := []) ⟨hx, hb, hml, hown, hts⟩ (index := 78) (c_M_same l D k cI n A hn hn2 (mU (d) (cpT d t (cAr n j) 1024) (cpT d mk (cHd n j + 56) 16)) (1) (by omega) (by omega) (1) (by omega) (by omega) ((cHd n 0) + 56) ((cHd n 1) + 56) (16) (by omega) (by omega)) (cwS 5 hts (gd_S m_501 m_502 m_33 m_503) rfl rfl rfl hd_M_same ⟨Nat.le_of_ble_eq_true rfl, Nat.le_of_ble_eq_true rfl⟩) mW_w mX_x hB hP hS rfl hl.1 rfl (Nat.le_of_ble_eq_true rfl) d_M_repair_90 ⟨Nat.zero_le _, Nat.zero_le _⟩ (fun r_ v_ H locs hw hP hS => ?_)
          obtain ⟨hw1, hw2⟩ := hw; have hw1 : r_ = (bI (alk (d) (d) ((cHd n 0) + 56) ((cHd n 1) + 56) 16)) := hw1; have hw1 := hw1.symm; have hw2 := hw2.symm; subst hw1; subst hw2
          refine lv_if_eq (tgt := 100) hx hb d_M_repair_93 (by decide) (fun c_93 => ?_) (fun c_93 => ?_)
          · have c_93 := bI_0.mp c_93
            refine lv_iconst (v := nI 0) hx hb d_M_repair_100 rfl ?_
            refine lv_istore_n (lv' := [(3, .int (nI (0))), (2, .int (nI (0))), (1, .int (nI (1))), (0, .ref (k 0))]) hx hb d_M_repair_101 rfl hl (by decide) rfl (fun ls hl => ?_)
            refine lv_iload_n hx hb d_M_repair_102 rfl (lv_at hl 2 rfl) ?_
            refine lv_if_ne (tgt := 118) hx hb d_M_repair_103 (by decide) (fun _ => ?_) (fun c9 => absurd c9 (by decide))
            refine lv_iconst (v := nI 0) hx hb d_M_repair_118 rfl ?_
            refine lv_istore (lv' := [(4, .int (nI (0))), (3, .int (nI (0))), (2, .int (nI (0))), (1, .int (nI (1))), (0, .ref (k 0))]) hx hb d_M_repair_119 hl (by decide) rfl (fun ls hl => ?_)
            refine lv_aload_n hx hb d_M_repair_121 rfl (lv_at hl 4 rfl) ?_
            refine g_callVi (As := []) (rest := []) ⟨hx, hb, hml, hown, hts⟩ (C := R_M) (index := 142) (c_M_guard l D k cI n A hn hn2 (d) (cpT d t (cAr n j) 1024) (cpT d mk (cHd n j + 56) 16) ) (cwV 0 hts (gd_V m_576 m_447 m_448 m_33 m_449) rfl rfl rfl hd_M_guard ⟨Nat.le_of_ble_eq_true rfl, Nat.le_of_ble_eq_true rfl⟩) mW_w mX_x hB hP hS (ci := 3) rfl (0) rfl rfl hl.1 rfl (Nat.le_of_ble_eq_true rfl) d_M_repair_122 ⟨Nat.zero_le _, Nat.zero_le _⟩ (fun r_ v_ H locs hw hP hS => ?_)
            obtain ⟨hw1, hw2⟩ := hw; have hw1 := hw1.symm; have hw2 := hw2.symm; subst hw1; subst hw2
            refine lv_if_eq (tgt := 132) hx hb d_M_repair_125 (by decide) (fun c_125 => ?_) (fun c_125 => ?_)
            · have c_125 := bI_0.mp c_125
              refine lv_iconst (v := nI 1) hx hb d_M_repair_132 rfl ?_
              refine lv_iload_n hx hb d_M_repair_133 rfl (lv_at hl 3 rfl) ?_
              refine lv_if_eq (tgt := 141) hx hb d_M_repair_134 (by decide) (fun c9 => absurd c9 (by decide)) (fun _ => ?_)
              refine lv_iconst (v := nI 2) hx hb d_M_repair_137 rfl ?_
              refine lv_goto (tgt := 142) hx hb d_M_repair_138 (by decide) ?_
              refine lv_iaddN hx hb d_M_repair_142 ?_
              refine lv_iload_n hx hb d_M_repair_143 rfl (lv_at hl 2 rfl) ?_
              refine lv_if_eq (tgt := 151) hx hb d_M_repair_144 (by decide) (fun _ => ?_) (fun c9 => absurd (by decide) c9)
              refine lv_iconst (v := nI 0) hx hb d_M_repair_151 rfl ?_
              refine lv_iaddN hx hb d_M_repair_152 ?_
              refine lv_iload hx hb d_M_repair_153 (lv_at hl 0 rfl) ?_
              refine lv_if_eq (tgt := 163) hx hb d_M_repair_155 (by decide) (fun _ => ?_) (fun c9 => absurd (by decide) c9)
              refine lv_iconst (v := nI 0) hx hb d_M_repair_163 rfl ?_
              refine lv_iaddN hx hb d_M_repair_164 ?_
              refine lv_istore (lv' := [(5, .int (nI (((1 + 2) + 0) + 0))), (4, .int (nI (0))), (3, .int (nI (0))), (2, .int (nI (0))), (1, .int (nI (1))), (0, .ref (k 0))]) hx hb d_M_repair_165 hl (by decide) rfl (fun ls hl => ?_)
              refine lv_aload_n hx hb d_M_repair_167 rfl (lv_at hl 5 rfl) ?_
              refine g_callVi (As := []) (rest := []) ⟨hx, hb, hml, hown, hts⟩ (C := R_M) (index := 142) (c_M_guard l D k cI n A hn hn2 (d) (cpT d t (cAr n j) 1024) (cpT d mk (cHd n j + 56) 16) ) (cwV 0 hts (gd_V m_576 m_447 m_448 m_33 m_449) rfl rfl rfl hd_M_guard ⟨Nat.le_of_ble_eq_true rfl, Nat.le_of_ble_eq_true rfl⟩) mW_w mX_x hB hP hS (ci := 3) rfl (0) rfl rfl hl.1 rfl (Nat.le_of_ble_eq_true rfl) d_M_repair_168 ⟨Nat.zero_le _, Nat.zero_le _⟩ (fun r_ v_ H locs hw hP hS => ?_)
              obtain ⟨hw1, hw2⟩ := hw; have hw1 := hw1.symm; have hw2 := hw2.symm; subst hw1; subst hw2
              refine lv_if_ne (tgt := 178) hx hb d_M_repair_171 (by decide) (fun c9 => absurd (bI_0.mpr c_125) c9) (fun _ => ?_)
              refine lv_aload_n hx hb d_M_repair_174 rfl (lv_at hl 5 rfl) ?_
              refine g_callVv (As := []) (rest := []) ⟨hx, hb, hml, hown, hts⟩ (C := R_M) (index := 117) (c_M_writeGuard l D k cI n A hn hn2 (d) (cpT d t (cAr n j) 1024) (cpT d mk (cHd n j + 56) 16) ) (cwV 0 hts (gd_V m_521 m_523 m_22 m_33 m_524) rfl rfl rfl hd_M_writeGuard ⟨Nat.le_of_ble_eq_true rfl, Nat.le_of_ble_eq_true rfl⟩) mW_w mX_x hB hP hS (ci := 3) rfl (0) rfl rfl hl.1 rfl (Nat.le_of_ble_eq_true rfl) d_M_repair_175 ⟨Nat.zero_le _, Nat.zero_le _⟩ (fun v_ H locs hw hP hS => ?_)
              have hw := hw.symm; subst hw
              refine lv_iload_n hx hb d_M_repair_178 rfl (lv_at hl 4 rfl) ?_
              refine lv_if_ne (tgt := 191) hx hb d_M_repair_179 (by decide) (fun _ => ?_) (fun c9 => absurd c9 (by decide))
              refine lv_aload_n hx hb d_M_repair_191 rfl (lv_at hl 5 rfl) ?_
              refine g_callVv (As := []) (rest := []) ⟨hx, hb, hml, hown, hts⟩ (C := R_M) (index := 124) (c_M_writeTable l D k cI n A hn hn2 (wGd n d) ((cpT d t (cAr n j) 1024)) ((cpT d mk (cHd n j + 56) 16)) ) (cwV 0 hts (gd_V m_530 m_532 m_23 m_33 m_533) rfl rfl rfl hd_M_writeTable ⟨Nat.le_of_ble_eq_true rfl, Nat.le_of_ble_eq_true rfl⟩) mW_w mX_x hB hP hS (ci := 3) rfl (0) rfl rfl hl.1 rfl (Nat.le_of_ble_eq_true rfl) d_M_repair_192 ⟨Nat.zero_le _, Nat.zero_le _⟩ (fun v_ H locs hw hP hS => ?_)
              have hw := hw.symm; subst hw
              refine lv_iload hx hb d_M_repair_195 (lv_at hl 0 rfl) ?_
              have hjj : j = 1 := by have q := hsr; rw [src, cI_f c_14, cI_t c_28] at q; exact (Option.some.inj q).symm
              subst hjj
              have e1 : reD n d = wTb n 1 d := by rw [reD, cI_f c_14]
              have e2 : reT n d = 2 := by rw [reT, cI_f c_14]
              exact g_iret (v := (nI (((1 + 2) + 0) + 0))) hx hb hr hlk mW_w mX_x hB hP hS (by rw [reR, oS_s hsr, e1, e2, cI_f (fun z => c_125 ((gd_wT hn d).mp z))]; exact ⟨rfl, _, _, by rw [wT_takeG hn (by decide)]⟩) d_M_repair_197
            · have c_125 := bI_1 c_125
              refine lv_iconst (v := nI 0) hx hb d_M_repair_128 rfl ?_
              refine lv_goto (tgt := 133) hx hb d_M_repair_129 (by decide) ?_
              refine lv_iload_n hx hb d_M_repair_133 rfl (lv_at hl 3 rfl) ?_
              refine lv_if_eq (tgt := 141) hx hb d_M_repair_134 (by decide) (fun c9 => absurd c9 (by decide)) (fun _ => ?_)
              refine lv_iconst (v := nI 2) hx hb d_M_repair_137 rfl ?_
              refine lv_goto (tgt := 142) hx hb d_M_repair_138 (by decide) ?_
              refine lv_iaddN hx hb d_M_repair_142 ?_
              refine lv_iload_n hx hb d_M_repair_143 rfl (lv_at hl 2 rfl) ?_
              refine lv_if_eq (tgt := 151) hx hb d_M_repair_144 (by decide) (fun _ => ?_) (fun c9 => absurd (by decide) c9)
              refine lv_iconst (v := nI 0) hx hb d_M_repair_151 rfl ?_
              refine lv_iaddN hx hb d_M_repair_152 ?_
              refine lv_iload hx hb d_M_repair_153 (lv_at hl 0 rfl) ?_
              refine lv_if_eq (tgt := 163) hx hb d_M_repair_155 (by decide) (fun _ => ?_) (fun c9 => absurd (by decide) c9)
              refine lv_iconst (v := nI 0) hx hb d_M_repair_163 rfl ?_
              refine lv_iaddN hx hb d_M_repair_164 ?_
              refine lv_istore (lv' := [(5, .int (nI (((0 + 2) + 0) + 0))), (4, .int (nI (0))), (3, .int (nI (0))), (2, .int (nI (0))), (1, .int (nI (1))), (0, .ref (k 0))]) hx hb d_M_repair_165 hl (by decide) rfl (fun ls hl => ?_)
              refine lv_aload_n hx hb d_M_repair_167 rfl (lv_at hl 5 rfl) ?_
              refine g_callVi (As := []) (rest := []) ⟨hx, hb, hml, hown, hts⟩ (C := R_M) (index := 142) (c_M_guard l D k cI n A hn hn2 (d) (cpT d t (cAr n j) 1024) (cpT d mk (cHd n j + 56) 16) ) (cwV 0 hts (gd_V m_576 m_447 m_448 m_33 m_449) rfl rfl rfl hd_M_guard ⟨Nat.le_of_ble_eq_true rfl, Nat.le_of_ble_eq_true rfl⟩) mW_w mX_x hB hP hS (ci := 3) rfl (0) rfl rfl hl.1 rfl (Nat.le_of_ble_eq_true rfl) d_M_repair_168 ⟨Nat.zero_le _, Nat.zero_le _⟩ (fun r_ v_ H locs hw hP hS => ?_)
              obtain ⟨hw1, hw2⟩ := hw; have hw1 := hw1.symm; have hw2 := hw2.symm; subst hw1; subst hw2
              refine lv_if_ne (tgt := 178) hx hb d_M_repair_171 (by decide) (fun _ => ?_) (fun c9 => absurd c9 (fun z => bI_0.mp z c_125))
              refine lv_iload_n hx hb d_M_repair_178 rfl (lv_at hl 4 rfl) ?_
              refine lv_if_ne (tgt := 191) hx hb d_M_repair_179 (by decide) (fun _ => ?_) (fun c9 => absurd c9 (by decide))
              refine lv_aload_n hx hb d_M_repair_191 rfl (lv_at hl 5 rfl) ?_
              refine g_callVv (As := []) (rest := []) ⟨hx, hb, hml, hown, hts⟩ (C := R_M) (index := 124) (c_M_writeTable l D k cI n A hn hn2 (d) (cpT d t (cAr n j) 1024) (cpT d mk (cHd n j + 56) 16) ) (cwV 0 hts (gd_V m_530 m_532 m_23 m_33 m_533) rfl rfl rfl hd_M_writeTable ⟨Nat.le_of_ble_eq_true rfl, Nat.le_of_ble_eq_true rfl⟩) mW_w mX_x hB hP hS (ci := 3) rfl (0) rfl rfl hl.1 rfl (Nat.le_of_ble_eq_true rfl) d_M_repair_192 ⟨Nat.zero_le _, Nat.zero_le _⟩ (fun v_ H locs hw hP hS => ?_)
              have hw := hw.symm; subst hw
              refine lv_iload hx hb d_M_repair_195 (lv_at hl 0 rfl) ?_
              have hjj : j = 1 := by have q := hsr; rw [src, cI_f c_14, cI_t c_28] at q; exact (Option.some.inj q).symm
              subst hjj
              have e1 : reD n d = wTb n 1 d := by rw [reD, cI_f c_14]
              have e2 : reT n d = 2 := by rw [reT, cI_f c_14]
              exact g_iret (v := (nI (((0 + 2) + 0) + 0))) hx hb hr hlk mW_w mX_x hB hP hS (by rw [reR, oS_s hsr, e1, e2, cI_t ((gd_wT hn d).mpr c_125)]; exact ⟨rfl, _, _, by rw [wT_take hn (by decide)]⟩) d_M_repair_197
          · have c_93 := bI_1 c_93
            refine lv_iconst (v := nI 1) hx hb d_M_repair_96 rfl ?_
            refine lv_goto (tgt := 101) hx hb d_M_repair_97 (by decide) ?_
            refine lv_istore_n (lv' := [(3, .int (nI (1))), (2, .int (nI (0))), (1, .int (nI (1))), (0, .ref (k 0))]) hx hb d_M_repair_101 rfl hl (by decide) rfl (fun ls hl => ?_)
            refine lv_iload_n hx hb d_M_repair_102 rfl (lv_at hl 2 rfl) ?_
            refine lv_if_ne (tgt := 118) hx hb d_M_repair_103 (by decide) (fun _ => ?_) (fun c9 => absurd c9 (by decide))
            refine lv_iconst (v := nI 0) hx hb d_M_repair_118 rfl ?_
            refine lv_istore (lv' := [(4, .int (nI (0))), (3, .int (nI (1))), (2, .int (nI (0))), (1, .int (nI (1))), (0, .ref (k 0))]) hx hb d_M_repair_119 hl (by decide) rfl (fun ls hl => ?_)
            refine lv_aload_n hx hb d_M_repair_121 rfl (lv_at hl 4 rfl) ?_
            refine g_callVi (As := []) (rest := []) ⟨hx, hb, hml, hown, hts⟩ (C := R_M) (index := 142) (c_M_guard l D k cI n A hn hn2 (d) (cpT d t (cAr n j) 1024) (cpT d mk (cHd n j + 56) 16) ) (cwV 0 hts (gd_V m_576 m_447 m_448 m_33 m_449) rfl rfl rfl hd_M_guard ⟨Nat.le_of_ble_eq_true rfl, Nat.le_of_ble_eq_true rfl⟩) mW_w mX_x hB hP hS (ci := 3) rfl (0) rfl rfl hl.1 rfl (Nat.le_of_ble_eq_true rfl) d_M_repair_122 ⟨Nat.zero_le _, Nat.zero_le _⟩ (fun r_ v_ H locs hw hP hS => ?_)
            obtain ⟨hw1, hw2⟩ := hw; have hw1 := hw1.symm; have hw2 := hw2.symm; subst hw1; subst hw2
            refine lv_if_eq (tgt := 132) hx hb d_M_repair_125 (by decide) (fun c_125 => ?_) (fun c_125 => ?_)
            · have c_125 := bI_0.mp c_125
              refine lv_iconst (v := nI 1) hx hb d_M_repair_132 rfl ?_
              refine lv_iload_n hx hb d_M_repair_133 rfl (lv_at hl 3 rfl) ?_
              refine lv_if_eq (tgt := 141) hx hb d_M_repair_134 (by decide) (fun c9 => absurd c9 (by decide)) (fun _ => ?_)
              refine lv_iconst (v := nI 2) hx hb d_M_repair_137 rfl ?_
              refine lv_goto (tgt := 142) hx hb d_M_repair_138 (by decide) ?_
              refine lv_iaddN hx hb d_M_repair_142 ?_
              refine lv_iload_n hx hb d_M_repair_143 rfl (lv_at hl 2 rfl) ?_
              refine lv_if_eq (tgt := 151) hx hb d_M_repair_144 (by decide) (fun _ => ?_) (fun c9 => absurd (by decide) c9)
              refine lv_iconst (v := nI 0) hx hb d_M_repair_151 rfl ?_
              refine lv_iaddN hx hb d_M_repair_152 ?_
              refine lv_iload hx hb d_M_repair_153 (lv_at hl 0 rfl) ?_
              refine lv_if_eq (tgt := 163) hx hb d_M_repair_155 (by decide) (fun _ => ?_) (fun c9 => absurd (by decide) c9)
              refine lv_iconst (v := nI 0) hx hb d_M_repair_163 rfl ?_
              refine lv_iaddN hx hb d_M_repair_164 ?_
              refine lv_istore (lv' := [(5, .int (nI (((1 + 2) + 0) + 0))), (4, .int (nI (0))), (3, .int (nI (1))), (2, .int (nI (0))), (1, .int (nI (1))), (0, .ref (k 0))]) hx hb d_M_repair_165 hl (by decide) rfl (fun ls hl => ?_)
              refine lv_aload_n hx hb d_M_repair_167 rfl (lv_at hl 5 rfl) ?_
              refine g_callVi (As := []) (rest := []) ⟨hx, hb, hml, hown, hts⟩ (C := R_M) (index := 142) (c_M_guard l D k cI n A hn hn2 (d) (cpT d t (cAr n j) 1024) (cpT d mk (cHd n j + 56) 16) ) (cwV 0 hts (gd_V m_576 m_447 m_448 m_33 m_449) rfl rfl rfl hd_M_guard ⟨Nat.le_of_ble_eq_true rfl, Nat.le_of_ble_eq_true rfl⟩) mW_w mX_x hB hP hS (ci := 3) rfl (0) rfl rfl hl.1 rfl (Nat.le_of_ble_eq_true rfl) d_M_repair_168 ⟨Nat.zero_le _, Nat.zero_le _⟩ (fun r_ v_ H locs hw hP hS => ?_)
              obtain ⟨hw1, hw2⟩ := hw; have hw1 := hw1.symm; have hw2 := hw2.symm; subst hw1; subst hw2
              refine lv_if_ne (tgt := 178) hx hb d_M_repair_171 (by decide) (fun c9 => absurd (bI_0.mpr c_125) c9) (fun _ => ?_)
              refine lv_aload_n hx hb d_M_repair_174 rfl (lv_at hl 5 rfl) ?_
              refine g_callVv (As := []) (rest := []) ⟨hx, hb, hml, hown, hts⟩ (C := R_M) (index := 117) (c_M_writeGuard l D k cI n A hn hn2 (d) (cpT d t (cAr n j) 1024) (cpT d mk (cHd n j + 56) 16) ) (cwV 0 hts (gd_V m_521 m_523 m_22 m_33 m_524) rfl rfl rfl hd_M_writeGuard ⟨Nat.le_of_ble_eq_true rfl, Nat.le_of_ble_eq_true rfl⟩) mW_w mX_x hB hP hS (ci := 3) rfl (0) rfl rfl hl.1 rfl (Nat.le_of_ble_eq_true rfl) d_M_repair_175 ⟨Nat.zero_le _, Nat.zero_le _⟩ (fun v_ H locs hw hP hS => ?_)
              have hw := hw.symm; subst hw
              refine lv_iload_n hx hb d_M_repair_178 rfl (lv_at hl 4 rfl) ?_
              refine lv_if_ne (tgt := 191) hx hb d_M_repair_179 (by decide) (fun _ => ?_) (fun c9 => absurd c9 (by decide))
              refine lv_aload_n hx hb d_M_repair_191 rfl (lv_at hl 5 rfl) ?_
              refine g_callVv (As := []) (rest := []) ⟨hx, hb, hml, hown, hts⟩ (C := R_M) (index := 124) (c_M_writeTable l D k cI n A hn hn2 (wGd n d) ((cpT d t (cAr n j) 1024)) ((cpT d mk (cHd n j + 56) 16)) ) (cwV 0 hts (gd_V m_530 m_532 m_23 m_33 m_533) rfl rfl rfl hd_M_writeTable ⟨Nat.le_of_ble_eq_true rfl, Nat.le_of_ble_eq_true rfl⟩) mW_w mX_x hB hP hS (ci := 3) rfl (0) rfl rfl hl.1 rfl (Nat.le_of_ble_eq_true rfl) d_M_repair_192 ⟨Nat.zero_le _, Nat.zero_le _⟩ (fun v_ H locs hw hP hS => ?_)
              have hw := hw.symm; subst hw
              refine lv_iload hx hb d_M_repair_195 (lv_at hl 0 rfl) ?_
              have hjj : j = 1 := by have q := hsr; rw [src, cI_f c_14, cI_t c_28] at q; exact (Option.some.inj q).symm
              subst hjj
              have e1 : reD n d = wTb n 1 d := by rw [reD, cI_f c_14]
              have e2 : reT n d = 2 := by rw [reT, cI_f c_14]
              exact g_iret (v := (nI (((1 + 2) + 0) + 0))) hx hb hr hlk mW_w mX_x hB hP hS (by rw [reR, oS_s hsr, e1, e2, cI_f (fun z => c_125 ((gd_wT hn d).mp z))]; exact ⟨rfl, _, _, by rw [wT_takeG hn (by decide)]⟩) d_M_repair_197
            · have c_125 := bI_1 c_125
              refine lv_iconst (v := nI 0) hx hb d_M_repair_128 rfl ?_
              refine lv_goto (tgt := 133) hx hb d_M_repair_129 (by decide) ?_
              refine lv_iload_n hx hb d_M_repair_133 rfl (lv_at hl 3 rfl) ?_
              refine lv_if_eq (tgt := 141) hx hb d_M_repair_134 (by decide) (fun c9 => absurd c9 (by decide)) (fun _ => ?_)
              refine lv_iconst (v := nI 2) hx hb d_M_repair_137 rfl ?_
              refine lv_goto (tgt := 142) hx hb d_M_repair_138 (by decide) ?_
              refine lv_iaddN hx hb d_M_repair_142 ?_
              refine lv_iload_n hx hb d_M_repair_143 rfl (lv_at hl 2 rfl) ?_
              refine lv_if_eq (tgt := 151) hx hb d_M_repair_144 (by decide) (fun _ => ?_) (fun c9 => absurd (by decide) c9)
              refine lv_iconst (v := nI 0) hx hb d_M_repair_151 rfl ?_
              refine lv_iaddN hx hb d_M_repair_152 ?_
              refine lv_iload hx hb d_M_repair_153 (lv_at hl 0 rfl) ?_
              refine lv_if_eq (tgt := 163) hx hb d_M_repair_155 (by decide) (fun _ => ?_) (fun c9 => absurd (by decide) c9)
              refine lv_iconst (v := nI 0) hx hb d_M_repair_163 rfl ?_
              refine lv_iaddN hx hb d_M_repair_164 ?_
              refine lv_istore (lv' := [(5, .int (nI (((0 + 2) + 0) + 0))), (4, .int (nI (0))), (3, .int (nI (1))), (2, .int (nI (0))), (1, .int (nI (1))), (0, .ref (k 0))]) hx hb d_M_repair_165 hl (by decide) rfl (fun ls hl => ?_)
              refine lv_aload_n hx hb d_M_repair_167 rfl (lv_at hl 5 rfl) ?_
              refine g_callVi (As := []) (rest := []) ⟨hx, hb, hml, hown, hts⟩ (C := R_M) (index := 142) (c_M_guard l D k cI n A hn hn2 (d) (cpT d t (cAr n j) 1024) (cpT d mk (cHd n j + 56) 16) ) (cwV 0 hts (gd_V m_576 m_447 m_448 m_33 m_449) rfl rfl rfl hd_M_guard ⟨Nat.le_of_ble_eq_true rfl, Nat.le_of_ble_eq_true rfl⟩) mW_w mX_x hB hP hS (ci := 3) rfl (0) rfl rfl hl.1 rfl (Nat.le_of_ble_eq_true rfl) d_M_repair_168 ⟨Nat.zero_le _, Nat.zero_le _⟩ (fun r_ v_ H locs hw hP hS => ?_)
              obtain ⟨hw1, hw2⟩ := hw; have hw1 := hw1.symm; have hw2 := hw2.symm; subst hw1; subst hw2
              refine lv_if_ne (tgt := 178) hx hb d_M_repair_171 (by decide) (fun _ => ?_) (fun c9 => absurd c9 (fun z => bI_0.mp z c_125))
              refine lv_iload_n hx hb d_M_repair_178 rfl (lv_at hl 4 rfl) ?_
              refine lv_if_ne (tgt := 191) hx hb d_M_repair_179 (by decide) (fun _ => ?_) (fun c9 => absurd c9 (by decide))
              refine lv_aload_n hx hb d_M_repair_191 rfl (lv_at hl 5 rfl) ?_
              refine g_callVv (As := []) (rest := []) ⟨hx, hb, hml, hown, hts⟩ (C := R_M) (index := 124) (c_M_writeTable l D k cI n A hn hn2 (d) (cpT d t (cAr n j) 1024) (cpT d mk (cHd n j + 56) 16) ) (cwV 0 hts (gd_V m_530 m_532 m_23 m_33 m_533) rfl rfl rfl hd_M_writeTable ⟨Nat.le_of_ble_eq_true rfl, Nat.le_of_ble_eq_true rfl⟩) mW_w mX_x hB hP hS (ci := 3) rfl (0) rfl rfl hl.1 rfl (Nat.le_of_ble_eq_true rfl) d_M_repair_192 ⟨Nat.zero_le _, Nat.zero_le _⟩ (fun v_ H locs hw hP hS => ?_)
              have hw := hw.symm; subst hw
              refine lv_iload hx hb d_M_repair_195 (lv_at hl 0 rfl) ?_
              have hjj : j = 1 := by have q := hsr; rw [src, cI_f c_14, cI_t c_28] at q; exact (Option.some.inj q).symm
              subst hjj
              have e1 : reD n d = wTb n 1 d := by rw [reD, cI_f c_14]
              have e2 : reT n d = 2 := by rw [reT, cI_f c_14]
              exact g_iret (v := (nI (((0 + 2) + 0) + 0))) hx hb hr hlk mW_w mX_x hB hP hS (by rw [reR, oS_s hsr, e1, e2, cI_t ((gd_wT hn d).mpr c_125)]; exact ⟨rfl, _, _, by rw [wT_take hn (by decide)]⟩) d_M_repair_197
      · exact absurd hsr (by rw [src, cI_f c_14, cI_f c_28]; exact fun z => by cases z)
  · refine lv_if_ne (tgt := 9) hx hb d_M_repair_4 (by decide) (fun c9 => absurd (by decide) c9) (fun _ => ?_)
    refine lv_iconst (v := -1) hx hb d_M_repair_7 rfl ?_
    exact g_iret (v := (-1)) hx hb hr hlk mW_w mX_x hB hP hS (by rw [reR, oS_n hsr]; exact ⟨rfl, _, _, rfl⟩) d_M_repair_8
