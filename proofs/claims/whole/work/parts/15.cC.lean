abbrev w_T_guidTail : List Cond := .code y_T_guidTail b_T_guidTail 2 (some .long) :: ALL
abbrev rm_T_guidTail : Room := { frames := 0, cells := 0, slots := 0, locals := 0 }
theorem hd_T_guidTail : y_T_guidTail.cls = R_T ∧ y_T_guidTail.cls ≠ "java/lang/invoke/MethodHandle" ∧ y_T_guidTail.cls ≠ "java/lang/invoke/VarHandle" ∧ (parseMethodDescriptor y_T_guidTail.desc).map (fun d => d.parameters.length) = some 1 := by decide +kernel
set_option maxHeartbeats 4000000 in
set_option maxRecDepth 100000 in
theorem c_T_guidTail (l : Launch) (D : va_G) (h : Nat → Nat) (cA : ClassId) (n tb : Nat) (A : Nat → Prop) (hn : 12 ≤ n) (hn2 : n ≤ 24) (d : Nat → BitVec 8) (x : Int64) : Met l y_T_guidTail w_T_guidTail rm_T_guidTail (va_Pc [.long (x)] (cB D h cA n tb A d)) (va_Ql (fun r v => r = gT x ∧ v = d) (cB D h cA n tb A) A) 0 0 A := by
  refine g_ofW (cc := b_T_guidTail) (maxL := 2) (ret := (some .long)) (by decide) rfl (Nat.le_of_ble_eq_true rfl) ?_
  intro p e s m below meth c ls hx hb hml hr hlk hown hts hnm hB hl
  have hown : s.vm.findClass R_T = some m.cls := hown
  have hP := hB.1
  have hK := hB.2.1
  have hS : va_S A s.heap s.heap [] := va_S.rf
  have hl : lv_has ls 2 [(0, .long (x))] := hl
  refine lv_lload_n hx hb d_T_guidTail_0 rfl (lv_at hl 0 rfl) ?_
  refine lv_ldc2 (v := 2862933555777941757) hx hb hown (hts _ (.tail _ m_155)) d_T_guidTail_1 ?_
  refine lv_lmul hx hb d_T_guidTail_4 ?_
  refine lv_ldc2 (v := 3037000493) hx hb hown (hts _ (.tail _ m_156)) d_T_guidTail_5 ?_
  refine lv_ladd hx hb d_T_guidTail_8 ?_
  exact g_lret (v := (((x) * (2862933555777941757)) + (3037000493))) hx hb hr hlk cW_w cX_x hB hP hS (⟨rfl, rfl⟩) d_T_guidTail_9
abbrev w_C_placeOf : List Cond := .code y_C_placeOf b_C_placeOf 2 (some .int) :: ALL
abbrev rm_C_placeOf : Room := { frames := 0, cells := 0, slots := 0, locals := 0 }
theorem hd_C_placeOf : y_C_placeOf.cls = R_C ∧ y_C_placeOf.cls ≠ "java/lang/invoke/MethodHandle" ∧ y_C_placeOf.cls ≠ "java/lang/invoke/VarHandle" ∧ (parseMethodDescriptor y_C_placeOf.desc).map (fun d => d.parameters.length) = some 1 := by decide +kernel
set_option maxHeartbeats 4000000 in
set_option maxRecDepth 100000 in
theorem c_C_placeOf (l : Launch) (D : va_G) (h : Nat → Nat) (cA : ClassId) (n tb : Nat) (A : Nat → Prop) (hn : 12 ≤ n) (hn2 : n ≤ 24) (d : Nat → BitVec 8) (j : Nat) (hj : j < 2) (i : Nat) : Met l y_C_placeOf w_C_placeOf rm_C_placeOf (va_Pc [.ref (h (2 + j)), .int (nI (i))] (cB D h cA n tb A d)) (va_Qi (fun r v => r = nI (cAr n j + i * 128) ∧ v = d) (cB D h cA n tb A) A) 0 0 A := by
  refine g_ofW (cc := b_C_placeOf) (maxL := 2) (ret := (some .int)) (by decide) rfl (Nat.le_of_ble_eq_true rfl) ?_
  intro p e s m below meth c ls hx hb hml hr hlk hown hts hnm hB hl
  have hown : s.vm.findClass R_C = some m.cls := hown
  have hP := hB.1
  have hK := hB.2.1
  have hS : va_S A s.heap s.heap [] := va_S.rf
  have hl : lv_has ls 2 [(0, .ref (h (2 + j))), (1, .int (nI (i)))] := hl
  have hHd := cHd_le hn hj
  have hAr := cAr_le hn hj
  refine lv_aload_n hx hb d_C_placeOf_0 rfl (lv_at hl 0 rfl) ?_
  refine va_get (D := D) (ci := 2) (v := .int (nI (cAr n j))) (C := R_C) (T := F_C) (N := 8) hx hb hts (fun w h => .tail _ (fi_C w h)) hown hK hP (2 + j) (cW_C hj) rfl 7 (by decide) (hts _ (.tail _ m_68)) (fun _ h9 => h9) rfl d_C_placeOf_1 ?_
  refine lv_iload_n hx hb d_C_placeOf_4 rfl (lv_at hl 1 rfl) ?_
  refine lv_sipush (v := nI 128) hx hb d_C_placeOf_5 rfl ?_
  refine lv_imulN hx hb d_C_placeOf_8 ?_
  refine lv_iaddN hx hb d_C_placeOf_9 ?_
  exact g_iret (v := (nI ((cAr n j) + (i * 128)))) hx hb hr hlk cW_w cX_x hB hP hS (⟨rfl, rfl⟩) d_C_placeOf_10
abbrev w_C_isFree : List Cond := .code y_C_isFree b_C_isFree 2 (some .boolean) :: ALL
abbrev rm_C_isFree : Room := { frames := 1, cells := 0, slots := 0, locals := 23 }
theorem hd_C_isFree : y_C_isFree.cls = R_C ∧ y_C_isFree.cls ≠ "java/lang/invoke/MethodHandle" ∧ y_C_isFree.cls ≠ "java/lang/invoke/VarHandle" ∧ (parseMethodDescriptor y_C_isFree.desc).map (fun d => d.parameters.length) = some 1 := by decide +kernel
set_option maxHeartbeats 4000000 in
set_option maxRecDepth 100000 in
theorem c_C_isFree (l : Launch) (D : va_G) (h : Nat → Nat) (cA : ClassId) (n tb : Nat) (A : Nat → Prop) (hn : 12 ≤ n) (hn2 : n ≤ 24) (d : Nat → BitVec 8) (j : Nat) (hj : j < 2) (i : Nat) (h1 : i < 8) : Met l y_C_isFree w_C_isFree rm_C_isFree (va_Pc [.ref (h (2 + j)), .int (nI (i))] (cB D h cA n tb A d)) (va_Qi (fun r v => r = bI (frE d (cAr n j) i) ∧ v = d) (cB D h cA n tb A) A) 0 0 A := by
  refine g_ofW (cc := b_C_isFree) (maxL := 2) (ret := (some .boolean)) (by decide) rfl (Nat.le_of_ble_eq_true rfl) ?_
  intro p e s m below meth c ls hx hb hml hr hlk hown hts hnm hB hl
  have hown : s.vm.findClass R_C = some m.cls := hown
  have hP := hB.1
  have hK := hB.2.1
  have hS : va_S A s.heap s.heap [] := va_S.rf
  have hl : lv_has ls 2 [(0, .ref (h (2 + j))), (1, .int (nI (i)))] := hl
  have hHd := cHd_le hn hj
  have hAr := cAr_le hn hj
  refine lv_aload_n hx hb d_C_isFree_0 rfl (lv_at hl 0 rfl) ?_
  refine va_get (D := D) (ci := 2) (v := .ref (h 1)) (C := R_C) (T := F_C) (N := 8) hx hb hts (fun w h => .tail _ (fi_C w h)) hown hK hP (2 + j) (cW_C hj) rfl 1 (by decide) (hts _ (.tail _ m_62)) (fun _ h9 => h9) rfl d_C_isFree_1 ?_
  refine lv_aload_n hx hb d_C_isFree_4 rfl (lv_at hl 0 rfl) ?_
  refine lv_iload_n hx hb d_C_isFree_5 rfl (lv_at hl 1 rfl) ?_
  refine g_callVi (As := [.int (nI (i))]) (rest := [.ref (h 1)]) ⟨hx, hb, hml, hown, hts⟩ (C := R_C) (index := 94) (c_C_placeOf l D h cA n tb A hn hn2 (d) (j) hj (i)) (cwV 1 hts (gd_V m_261 m_263 m_11 m_32 m_264) rfl rfl rfl hd_C_placeOf ⟨Nat.le_of_ble_eq_true rfl, Nat.le_of_ble_eq_true rfl⟩) cW_w cX_x hB hP hS (ci := 2) rfl ((2 + j)) (cW_C hj) rfl hl.1 rfl (Nat.le_of_ble_eq_true rfl) d_C_isFree_6 ⟨Nat.zero_le _, Nat.zero_le _⟩ (fun r_ v_ H locs hw hP hS => ?_)
  obtain ⟨hw1, hw2⟩ := hw; have hw1 := hw1.symm; have hw2 := hw2.symm; subst hw1; subst hw2
  refine lv_iconst (v := nI 0) hx hb d_C_isFree_9 rfl ?_
  refine lv_iaddN hx hb d_C_isFree_10 ?_
  refine lv_bipush (v := nI 16) hx hb d_C_isFree_11 rfl ?_
  refine g_callVi (As := [.int (nI ((cAr n j + i * 128) + 0)), .int (nI (16))]) (rest := []) ⟨hx, hb, hml, hown, hts⟩ (C := R_B) (index := 136) (c_B_isZero l D h cA n tb A hn hn2 (d) ((cAr n j + i * 128) + 0) (16) (by omega)) (cwV 2 hts (gd_V m_269 m_234 m_235 m_31 m_236) rfl rfl rfl hd_B_isZero ⟨Nat.le_of_ble_eq_true rfl, Nat.le_of_ble_eq_true rfl⟩) cW_w cX_x hB hP hS (ci := 1) rfl (1) rfl rfl hl.1 rfl (Nat.le_of_ble_eq_true rfl) d_C_isFree_13 ⟨Nat.zero_le _, Nat.zero_le _⟩ (fun r_ v_ H locs hw hP hS => ?_)
  obtain ⟨hw1, hw2⟩ := hw; have hw1 := hw1.symm; have hw2 := hw2.symm; subst hw1; subst hw2
  exact g_zret (v := (bI (isZ d ((cAr n j + i * 128) + 0) 16))) hx hb hr (bI_n _) hlk cW_w cX_x hB hP hS (⟨rfl, rfl⟩) d_C_isFree_16
abbrev w_C_getLong : List Cond := .code y_C_getLong b_C_getLong 3 (some .long) :: ALL
abbrev rm_C_getLong : Room := { frames := 1, cells := 0, slots := 0, locals := 25 }
theorem hd_C_getLong : y_C_getLong.cls = R_C ∧ y_C_getLong.cls ≠ "java/lang/invoke/MethodHandle" ∧ y_C_getLong.cls ≠ "java/lang/invoke/VarHandle" ∧ (parseMethodDescriptor y_C_getLong.desc).map (fun d => d.parameters.length) = some 2 := by decide +kernel
set_option maxHeartbeats 4000000 in
set_option maxRecDepth 100000 in
theorem c_C_getLong (l : Launch) (D : va_G) (h : Nat → Nat) (cA : ClassId) (n tb : Nat) (A : Nat → Prop) (hn : 12 ≤ n) (hn2 : n ≤ 24) (d : Nat → BitVec 8) (j : Nat) (hj : j < 2) (i a : Nat) (h1 : i < 8) (h2 : a + 8 ≤ 128) : Met l y_C_getLong w_C_getLong rm_C_getLong (va_Pc [.ref (h (2 + j)), .int (nI (i)), .int (nI (a))] (cB D h cA n tb A d)) (va_Ql (fun r v => r = num d (cAr n j + i * 128 + a) 8 ∧ v = d) (cB D h cA n tb A) A) 0 0 A := by
  refine g_ofW (cc := b_C_getLong) (maxL := 3) (ret := (some .long)) (by decide) rfl (Nat.le_of_ble_eq_true rfl) ?_
  intro p e s m below meth c ls hx hb hml hr hlk hown hts hnm hB hl
  have hown : s.vm.findClass R_C = some m.cls := hown
  have hP := hB.1
  have hK := hB.2.1
  have hS : va_S A s.heap s.heap [] := va_S.rf
  have hl : lv_has ls 3 [(0, .ref (h (2 + j))), (1, .int (nI (i))), (2, .int (nI (a)))] := hl
  have hHd := cHd_le hn hj
  have hAr := cAr_le hn hj
  refine lv_aload_n hx hb d_C_getLong_0 rfl (lv_at hl 0 rfl) ?_
  refine va_get (D := D) (ci := 2) (v := .ref (h 1)) (C := R_C) (T := F_C) (N := 8) hx hb hts (fun w h => .tail _ (fi_C w h)) hown hK hP (2 + j) (cW_C hj) rfl 1 (by decide) (hts _ (.tail _ m_62)) (fun _ h9 => h9) rfl d_C_getLong_1 ?_
  refine lv_aload_n hx hb d_C_getLong_4 rfl (lv_at hl 0 rfl) ?_
  refine lv_iload_n hx hb d_C_getLong_5 rfl (lv_at hl 1 rfl) ?_
  refine g_callVi (As := [.int (nI (i))]) (rest := [.ref (h 1)]) ⟨hx, hb, hml, hown, hts⟩ (C := R_C) (index := 94) (c_C_placeOf l D h cA n tb A hn hn2 (d) (j) hj (i)) (cwV 1 hts (gd_V m_261 m_263 m_11 m_32 m_264) rfl rfl rfl hd_C_placeOf ⟨Nat.le_of_ble_eq_true rfl, Nat.le_of_ble_eq_true rfl⟩) cW_w cX_x hB hP hS (ci := 2) rfl ((2 + j)) (cW_C hj) rfl hl.1 rfl (Nat.le_of_ble_eq_true rfl) d_C_getLong_6 ⟨Nat.zero_le _, Nat.zero_le _⟩ (fun r_ v_ H locs hw hP hS => ?_)
  obtain ⟨hw1, hw2⟩ := hw; have hw1 := hw1.symm; have hw2 := hw2.symm; subst hw1; subst hw2
  refine lv_iload_n hx hb d_C_getLong_9 rfl (lv_at hl 2 rfl) ?_
  refine lv_iaddN hx hb d_C_getLong_10 ?_
  refine lv_bipush (v := nI 8) hx hb d_C_getLong_11 rfl ?_
  refine g_callVl (As := [.int (nI ((cAr n j + i * 128) + a)), .int (nI (8))]) (rest := []) ⟨hx, hb, hml, hown, hts⟩ (C := R_B) (index := 41) (c_B_number l D h cA n tb A hn hn2 (d) ((cAr n j + i * 128) + a) (8) (by omega)) (cwV 2 hts (gd_V m_169 m_170 m_171 m_31 m_172) rfl rfl rfl hd_B_number ⟨Nat.le_of_ble_eq_true rfl, Nat.le_of_ble_eq_true rfl⟩) cW_w cX_x hB hP hS (ci := 1) rfl (1) rfl rfl hl.1 rfl (Nat.le_of_ble_eq_true rfl) d_C_getLong_13 ⟨Nat.zero_le _, Nat.zero_le _⟩ (fun r_ v_ H locs hw hP hS => ?_)
  obtain ⟨hw1, hw2⟩ := hw; have hw1 := hw1.symm; have hw2 := hw2.symm; subst hw1; subst hw2
  exact g_lret (v := (num d ((cAr n j + i * 128) + a) 8)) hx hb hr hlk cW_w cX_x hB hP hS (⟨rfl, rfl⟩) d_C_getLong_16
abbrev w_C_setLong : List Cond := .code y_C_setLong b_C_setLong 5 none :: ALL
abbrev rm_C_setLong : Room := { frames := 1, cells := 0, slots := 0, locals := 25 }
theorem hd_C_setLong : y_C_setLong.cls = R_C ∧ y_C_setLong.cls ≠ "java/lang/invoke/MethodHandle" ∧ y_C_setLong.cls ≠ "java/lang/invoke/VarHandle" ∧ (parseMethodDescriptor y_C_setLong.desc).map (fun d => d.parameters.length) = some 3 := by decide +kernel
set_option maxHeartbeats 4000000 in
set_option maxRecDepth 100000 in
theorem c_C_setLong (l : Launch) (D : va_G) (h : Nat → Nat) (cA : ClassId) (n tb : Nat) (A : Nat → Prop) (hn : 12 ≤ n) (hn2 : n ≤ 24) (d : Nat → BitVec 8) (j : Nat) (hj : j < 2) (i a : Nat) (x : Int64) (h1 : i < 8) (h2 : a + 8 ≤ 128) : Met l y_C_setLong w_C_setLong rm_C_setLong (va_Pc [.ref (h (2 + j)), .int (nI (i)), .int (nI (a)), .long (x)] (cB D h cA n tb A d)) (va_Qv (fun v => v = setN d (cAr n j + i * 128 + a) 8 x) (cB D h cA n tb A) A) 0 0 A := by
  refine g_ofW (cc := b_C_setLong) (maxL := 5) (ret := none) (by decide) rfl (Nat.le_of_ble_eq_true rfl) ?_
  intro p e s m below meth c ls hx hb hml hr hlk hown hts hnm hB hl
  have hown : s.vm.findClass R_C = some m.cls := hown
  have hP := hB.1
  have hK := hB.2.1
  have hS : va_S A s.heap s.heap [] := va_S.rf
  have hl : lv_has ls 5 [(0, .ref (h (2 + j))), (1, .int (nI (i))), (2, .int (nI (a))), (3, .long (x))] := hl
  have hHd := cHd_le hn hj
  have hAr := cAr_le hn hj
  refine lv_aload_n hx hb d_C_setLong_0 rfl (lv_at hl 0 rfl) ?_
  refine va_get (D := D) (ci := 2) (v := .ref (h 1)) (C := R_C) (T := F_C) (N := 8) hx hb hts (fun w h => .tail _ (fi_C w h)) hown hK hP (2 + j) (cW_C hj) rfl 1 (by decide) (hts _ (.tail _ m_62)) (fun _ h9 => h9) rfl d_C_setLong_1 ?_
  refine lv_aload_n hx hb d_C_setLong_4 rfl (lv_at hl 0 rfl) ?_
  refine lv_iload_n hx hb d_C_setLong_5 rfl (lv_at hl 1 rfl) ?_
  refine g_callVi (As := [.int (nI (i))]) (rest := [.ref (h 1)]) ⟨hx, hb, hml, hown, hts⟩ (C := R_C) (index := 94) (c_C_placeOf l D h cA n tb A hn hn2 (d) (j) hj (i)) (cwV 1 hts (gd_V m_261 m_263 m_11 m_32 m_264) rfl rfl rfl hd_C_placeOf ⟨Nat.le_of_ble_eq_true rfl, Nat.le_of_ble_eq_true rfl⟩) cW_w cX_x hB hP hS (ci := 2) rfl ((2 + j)) (cW_C hj) rfl hl.1 rfl (Nat.le_of_ble_eq_true rfl) d_C_setLong_6 ⟨Nat.zero_le _, Nat.zero_le _⟩ (fun r_ v_ H locs hw hP hS => ?_)
  obtain ⟨hw1, hw2⟩ := hw; have hw1 := hw1.symm; have hw2 := hw2.symm; subst hw1; subst hw2
  refine lv_iload_n hx hb d_C_setLong_9 rfl (lv_at hl 2 rfl) ?_
  refine lv_iaddN hx hb d_C_setLong_10 ?_
  refine lv_bipush (v := nI 8) hx hb d_C_setLong_11 rfl ?_
  refine lv_lload_n hx hb d_C_setLong_13 rfl (lv_at hl 3 rfl) ?_
  refine g_callVv (As := [.int (nI ((cAr n j + i * 128) + a)), .int (nI (8)), .long (x)]) (rest := []) ⟨hx, hb, hml, hown, hts⟩ (C := R_B) (index := 110) (c_B_setNumber l D h cA n tb A hn hn2 (d) ((cAr n j + i * 128) + a) (8) (x) (by omega)) (cwV 3 hts (gd_V m_151 m_124 m_125 m_31 m_126) rfl rfl rfl hd_B_setNumber ⟨Nat.le_of_ble_eq_true rfl, Nat.le_of_ble_eq_true rfl⟩) cW_w cX_x hB hP hS (ci := 1) rfl (1) rfl rfl hl.1 rfl (Nat.le_of_ble_eq_true rfl) d_C_setLong_14 ⟨Nat.zero_le _, Nat.zero_le _⟩ (fun v_ H locs hw hP hS => ?_)
  have hw := hw.symm; subst hw
  exact g_vret hx hb hr hlk cW_w cX_x hB hP hS (rfl) d_C_setLong_17
abbrev w_C_setGuid : List Cond := .code y_C_setGuid b_C_setGuid 5 none :: ALL
abbrev rm_C_setGuid : Room := { frames := 2, cells := 0, slots := 0, locals := 49 }
theorem hd_C_setGuid : y_C_setGuid.cls = R_C ∧ y_C_setGuid.cls ≠ "java/lang/invoke/MethodHandle" ∧ y_C_setGuid.cls ≠ "java/lang/invoke/VarHandle" ∧ (parseMethodDescriptor y_C_setGuid.desc).map (fun d => d.parameters.length) = some 3 := by decide +kernel
set_option maxHeartbeats 4000000 in
set_option maxRecDepth 100000 in
theorem c_C_setGuid (l : Launch) (D : va_G) (h : Nat → Nat) (cA : ClassId) (n tb : Nat) (A : Nat → Prop) (hn : 12 ≤ n) (hn2 : n ≤ 24) (d : Nat → BitVec 8) (j : Nat) (hj : j < 2) (i a : Nat) (x : Int64) (h1 : i < 8) (h2 : a + 16 ≤ 128) : Met l y_C_setGuid w_C_setGuid rm_C_setGuid (va_Pc [.ref (h (2 + j)), .int (nI (i)), .int (nI (a)), .long (x)] (cB D h cA n tb A d)) (va_Qv (fun v => v = guid d (cAr n j + i * 128 + a) x) (cB D h cA n tb A) A) 0 0 A := by
  refine g_ofW (cc := b_C_setGuid) (maxL := 5) (ret := none) (by decide) rfl (Nat.le_of_ble_eq_true rfl) ?_
  intro p e s m below meth c ls hx hb hml hr hlk hown hts hnm hB hl
  have hown : s.vm.findClass R_C = some m.cls := hown
  have hP := hB.1
  have hK := hB.2.1
  have hS : va_S A s.heap s.heap [] := va_S.rf
  have hl : lv_has ls 5 [(0, .ref (h (2 + j))), (1, .int (nI (i))), (2, .int (nI (a))), (3, .long (x))] := hl
  have hHd := cHd_le hn hj
  have hAr := cAr_le hn hj
  refine lv_aload_n hx hb d_C_setGuid_0 rfl (lv_at hl 0 rfl) ?_
  refine lv_iload_n hx hb d_C_setGuid_1 rfl (lv_at hl 1 rfl) ?_
  refine lv_iload_n hx hb d_C_setGuid_2 rfl (lv_at hl 2 rfl) ?_
  refine lv_lload_n hx hb d_C_setGuid_3 rfl (lv_at hl 3 rfl) ?_
  refine g_callVv (As := [.int (nI (i)), .int (nI (a)), .long (x)]) (rest := []) ⟨hx, hb, hml, hown, hts⟩ (C := R_C) (index := 140) (c_C_setLong l D h cA n tb A hn hn2 (d) (j) hj (i) (a) (x) (by omega) (by omega)) (cwV 3 hts (gd_V m_317 m_318 m_319 m_32 m_320) rfl rfl rfl hd_C_setLong ⟨Nat.le_of_ble_eq_true rfl, Nat.le_of_ble_eq_true rfl⟩) cW_w cX_x hB hP hS (ci := 2) rfl ((2 + j)) (cW_C hj) rfl hl.1 rfl (Nat.le_of_ble_eq_true rfl) d_C_setGuid_4 ⟨Nat.zero_le _, Nat.zero_le _⟩ (fun v_ H locs hw hP hS => ?_)
  have hw := hw.symm; subst hw
  refine lv_aload_n hx hb d_C_setGuid_7 rfl (lv_at hl 0 rfl) ?_
  refine lv_iload_n hx hb d_C_setGuid_8 rfl (lv_at hl 1 rfl) ?_
  refine lv_iload_n hx hb d_C_setGuid_9 rfl (lv_at hl 2 rfl) ?_
  refine lv_bipush (v := nI 8) hx hb d_C_setGuid_10 rfl ?_
  refine lv_iaddN hx hb d_C_setGuid_12 ?_
  refine lv_lload_n hx hb d_C_setGuid_13 rfl (lv_at hl 3 rfl) ?_
  refine g_callNl (As := [.long (x)]) (rest := [.int (nI (a + 8)), .int (nI (i)), .ref (h (2 + j))]) ⟨hx, hb, hml, hown, hts⟩ (index := 132) (c_T_guidTail l D h cA n tb A hn hn2 (setN d (cAr n j + i * 128 + a) 8 x) (x)) ⟨va_cnB (host := "TwinTables") 1 hts (gd_C m_154) rfl rfl rfl hB.2.2.2.2.2.2 (hts _ (.tail _ m_30)) hd_T_guidTail.2 ⟨Nat.le_of_ble_eq_true rfl, Nat.le_of_ble_eq_true rfl⟩, hts _ (.tail _ m_153), trivial⟩ cW_w cX_x hB hP hS rfl hl.1 rfl (Nat.le_of_ble_eq_true rfl) d_C_setGuid_14 ⟨Nat.zero_le _, Nat.zero_le _⟩ (fun r_ v_ H locs hw hP hS => ?_)
  obtain ⟨hw1, hw2⟩ := hw; have hw1 := hw1.symm; have hw2 := hw2.symm; subst hw1; subst hw2
  refine g_callVv (As := [.int (nI (i)), .int (nI (a + 8)), .long (gT x)]) (rest := []) ⟨hx, hb, hml, hown, hts⟩ (C := R_C) (index := 140) (c_C_setLong l D h cA n tb A hn hn2 (setN d (cAr n j + i * 128 + a) 8 x) (j) hj (i) (a + 8) (gT x) (by omega) (by omega)) (cwV 3 hts (gd_V m_317 m_318 m_319 m_32 m_320) rfl rfl rfl hd_C_setLong ⟨Nat.le_of_ble_eq_true rfl, Nat.le_of_ble_eq_true rfl⟩) cW_w cX_x hB hP hS (ci := 2) rfl ((2 + j)) (cW_C hj) rfl hl.1 rfl (Nat.le_of_ble_eq_true rfl) d_C_setGuid_17 ⟨Nat.zero_le _, Nat.zero_le _⟩ (fun v_ H locs hw hP hS => ?_)
  have hw := hw.symm; subst hw
  exact g_vret hx hb hr hlk cW_w cX_x hB hP hS (rfl) d_C_setGuid_20
abbrev w_C_setRange : List Cond := .code y_C_setRange b_C_setRange 4 none :: ALL
abbrev rm_C_setRange : Room := { frames := 2, cells := 0, slots := 0, locals := 49 }
theorem hd_C_setRange : y_C_setRange.cls = R_C ∧ y_C_setRange.cls ≠ "java/lang/invoke/MethodHandle" ∧ y_C_setRange.cls ≠ "java/lang/invoke/VarHandle" ∧ (parseMethodDescriptor y_C_setRange.desc).map (fun d => d.parameters.length) = some 3 := by decide +kernel
set_option maxHeartbeats 4000000 in
set_option maxRecDepth 100000 in
theorem c_C_setRange (l : Launch) (D : va_G) (h : Nat → Nat) (cA : ClassId) (n tb : Nat) (A : Nat → Prop) (hn : 12 ≤ n) (hn2 : n ≤ 24) (d : Nat → BitVec 8) (j : Nat) (hj : j < 2) (i : Nat) (x y : Int32) (h1 : i < 8) : Met l y_C_setRange w_C_setRange rm_C_setRange (va_Pc [.ref (h (2 + j)), .int (nI (i)), .int (x), .int (y)] (cB D h cA n tb A d)) (va_Qv (fun v => v = setN (setN d (cAr n j + i * 128 + 32) 8 x.toInt64) (cAr n j + i * 128 + 40) 8 y.toInt64) (cB D h cA n tb A) A) 0 0 A := by
  refine g_ofW (cc := b_C_setRange) (maxL := 4) (ret := none) (by decide) rfl (Nat.le_of_ble_eq_true rfl) ?_
  intro p e s m below meth c ls hx hb hml hr hlk hown hts hnm hB hl
  have hown : s.vm.findClass R_C = some m.cls := hown
  have hP := hB.1
  have hK := hB.2.1
  have hS : va_S A s.heap s.heap [] := va_S.rf
  have hl : lv_has ls 4 [(0, .ref (h (2 + j))), (1, .int (nI (i))), (2, .int (x)), (3, .int (y))] := hl
  have hHd := cHd_le hn hj
  have hAr := cAr_le hn hj
  refine lv_aload_n hx hb d_C_setRange_0 rfl (lv_at hl 0 rfl) ?_
  refine lv_iload_n hx hb d_C_setRange_1 rfl (lv_at hl 1 rfl) ?_
  refine lv_bipush (v := nI 32) hx hb d_C_setRange_2 rfl ?_
  refine lv_iload_n hx hb d_C_setRange_4 rfl (lv_at hl 2 rfl) ?_
  refine lv_i2l hx hb d_C_setRange_5 rfl ?_
  refine g_callVv (As := [.int (nI (i)), .int (nI (32)), .long ((x).toInt64)]) (rest := []) ⟨hx, hb, hml, hown, hts⟩ (C := R_C) (index := 140) (c_C_setLong l D h cA n tb A hn hn2 (d) (j) hj (i) (32) ((x).toInt64) (by omega) (by omega)) (cwV 3 hts (gd_V m_317 m_318 m_319 m_32 m_320) rfl rfl rfl hd_C_setLong ⟨Nat.le_of_ble_eq_true rfl, Nat.le_of_ble_eq_true rfl⟩) cW_w cX_x hB hP hS (ci := 2) rfl ((2 + j)) (cW_C hj) rfl hl.1 rfl (Nat.le_of_ble_eq_true rfl) d_C_setRange_6 ⟨Nat.zero_le _, Nat.zero_le _⟩ (fun v_ H locs hw hP hS => ?_)
  have hw := hw.symm; subst hw
  refine lv_aload_n hx hb d_C_setRange_9 rfl (lv_at hl 0 rfl) ?_
  refine lv_iload_n hx hb d_C_setRange_10 rfl (lv_at hl 1 rfl) ?_
  refine lv_bipush (v := nI 40) hx hb d_C_setRange_11 rfl ?_
  refine lv_iload_n hx hb d_C_setRange_13 rfl (lv_at hl 3 rfl) ?_
  refine lv_i2l hx hb d_C_setRange_14 rfl ?_
  refine g_callVv (As := [.int (nI (i)), .int (nI (40)), .long ((y).toInt64)]) (rest := []) ⟨hx, hb, hml, hown, hts⟩ (C := R_C) (index := 140) (c_C_setLong l D h cA n tb A hn hn2 (setN d (cAr n j + i * 128 + 32) 8 ((x).toInt64)) (j) hj (i) (40) ((y).toInt64) (by omega) (by omega)) (cwV 3 hts (gd_V m_317 m_318 m_319 m_32 m_320) rfl rfl rfl hd_C_setLong ⟨Nat.le_of_ble_eq_true rfl, Nat.le_of_ble_eq_true rfl⟩) cW_w cX_x hB hP hS (ci := 2) rfl ((2 + j)) (cW_C hj) rfl hl.1 rfl (Nat.le_of_ble_eq_true rfl) d_C_setRange_15 ⟨Nat.zero_le _, Nat.zero_le _⟩ (fun v_ H locs hw hP hS => ?_)
  have hw := hw.symm; subst hw
  exact g_vret hx hb hr hlk cW_w cX_x hB hP hS (rfl) d_C_setRange_18
abbrev w_C_getLetter : List Cond := .code y_C_getLetter b_C_getLetter 3 (some .char) :: ALL
abbrev rm_C_getLetter : Room := { frames := 1, cells := 0, slots := 0, locals := 25 }
theorem hd_C_getLetter : y_C_getLetter.cls = R_C ∧ y_C_getLetter.cls ≠ "java/lang/invoke/MethodHandle" ∧ y_C_getLetter.cls ≠ "java/lang/invoke/VarHandle" ∧ (parseMethodDescriptor y_C_getLetter.desc).map (fun d => d.parameters.length) = some 2 := by decide +kernel
set_option maxHeartbeats 4000000 in
set_option maxRecDepth 100000 in
theorem c_C_getLetter (l : Launch) (D : va_G) (h : Nat → Nat) (cA : ClassId) (n tb : Nat) (A : Nat → Prop) (hn : 12 ≤ n) (hn2 : n ≤ 24) (d : Nat → BitVec 8) (j : Nat) (hj : j < 2) (i a : Nat) (h1 : i < 8) (h2 : a < 36) : Met l y_C_getLetter w_C_getLetter rm_C_getLetter (va_Pc [.ref (h (2 + j)), .int (nI (i)), .int (nI (a))] (cB D h cA n tb A d)) (va_Qi (fun r v => r = ((num d (cAr n j + i * 128 + 56 + 2 * a) 2).toInt32.toUInt32 % 65536).toInt32 ∧ v = d) (cB D h cA n tb A) A) 0 0 A := by
  refine g_ofW (cc := b_C_getLetter) (maxL := 3) (ret := (some .char)) (by decide) rfl (Nat.le_of_ble_eq_true rfl) ?_
  intro p e s m below meth c ls hx hb hml hr hlk hown hts hnm hB hl
  have hown : s.vm.findClass R_C = some m.cls := hown
  have hP := hB.1
  have hK := hB.2.1
  have hS : va_S A s.heap s.heap [] := va_S.rf
  have hl : lv_has ls 3 [(0, .ref (h (2 + j))), (1, .int (nI (i))), (2, .int (nI (a)))] := hl
  have hHd := cHd_le hn hj
  have hAr := cAr_le hn hj
  refine lv_aload_n hx hb d_C_getLetter_0 rfl (lv_at hl 0 rfl) ?_
  refine va_get (D := D) (ci := 2) (v := .ref (h 1)) (C := R_C) (T := F_C) (N := 8) hx hb hts (fun w h => .tail _ (fi_C w h)) hown hK hP (2 + j) (cW_C hj) rfl 1 (by decide) (hts _ (.tail _ m_62)) (fun _ h9 => h9) rfl d_C_getLetter_1 ?_
  refine lv_aload_n hx hb d_C_getLetter_4 rfl (lv_at hl 0 rfl) ?_
  refine lv_iload_n hx hb d_C_getLetter_5 rfl (lv_at hl 1 rfl) ?_
  refine g_callVi (As := [.int (nI (i))]) (rest := [.ref (h 1)]) ⟨hx, hb, hml, hown, hts⟩ (C := R_C) (index := 94) (c_C_placeOf l D h cA n tb A hn hn2 (d) (j) hj (i)) (cwV 1 hts (gd_V m_261 m_263 m_11 m_32 m_264) rfl rfl rfl hd_C_placeOf ⟨Nat.le_of_ble_eq_true rfl, Nat.le_of_ble_eq_true rfl⟩) cW_w cX_x hB hP hS (ci := 2) rfl ((2 + j)) (cW_C hj) rfl hl.1 rfl (Nat.le_of_ble_eq_true rfl) d_C_getLetter_6 ⟨Nat.zero_le _, Nat.zero_le _⟩ (fun r_ v_ H locs hw hP hS => ?_)
  obtain ⟨hw1, hw2⟩ := hw; have hw1 := hw1.symm; have hw2 := hw2.symm; subst hw1; subst hw2
  refine lv_bipush (v := nI 56) hx hb d_C_getLetter_9 rfl ?_
  refine lv_iaddN hx hb d_C_getLetter_11 ?_
  refine lv_iconst (v := nI 2) hx hb d_C_getLetter_12 rfl ?_
  refine lv_iload_n hx hb d_C_getLetter_13 rfl (lv_at hl 2 rfl) ?_
  refine lv_imulN hx hb d_C_getLetter_14 ?_
  refine lv_iaddN hx hb d_C_getLetter_15 ?_
  refine lv_iconst (v := nI 2) hx hb d_C_getLetter_16 rfl ?_
  refine g_callVl (As := [.int (nI (((cAr n j + i * 128) + 56) + (2 * a))), .int (nI (2))]) (rest := []) ⟨hx, hb, hml, hown, hts⟩ (C := R_B) (index := 41) (c_B_number l D h cA n tb A hn hn2 (d) (((cAr n j + i * 128) + 56) + (2 * a)) (2) (by omega)) (cwV 2 hts (gd_V m_169 m_170 m_171 m_31 m_172) rfl rfl rfl hd_B_number ⟨Nat.le_of_ble_eq_true rfl, Nat.le_of_ble_eq_true rfl⟩) cW_w cX_x hB hP hS (ci := 1) rfl (1) rfl rfl hl.1 rfl (Nat.le_of_ble_eq_true rfl) d_C_getLetter_17 ⟨Nat.zero_le _, Nat.zero_le _⟩ (fun r_ v_ H locs hw hP hS => ?_)
  obtain ⟨hw1, hw2⟩ := hw; have hw1 := hw1.symm; have hw2 := hw2.symm; subst hw1; subst hw2
  refine lv_l2i hx hb d_C_getLetter_20 rfl ?_
  refine lv_i2c hx hb d_C_getLetter_21 rfl ?_
  exact g_zret (v := ((((num d (((cAr n j + i * 128) + 56) + (2 * a)) 2).toInt32).toUInt32 % 65536).toInt32)) hx hb hr (pk_nc _) hlk cW_w cX_x hB hP hS (⟨rfl, rfl⟩) d_C_getLetter_22
abbrev w_C_setLetter : List Cond := .code y_C_setLetter b_C_setLetter 4 none :: ALL
abbrev rm_C_setLetter : Room := { frames := 1, cells := 0, slots := 0, locals := 25 }
theorem hd_C_setLetter : y_C_setLetter.cls = R_C ∧ y_C_setLetter.cls ≠ "java/lang/invoke/MethodHandle" ∧ y_C_setLetter.cls ≠ "java/lang/invoke/VarHandle" ∧ (parseMethodDescriptor y_C_setLetter.desc).map (fun d => d.parameters.length) = some 3 := by decide +kernel
set_option maxHeartbeats 4000000 in
set_option maxRecDepth 100000 in
theorem c_C_setLetter (l : Launch) (D : va_G) (h : Nat → Nat) (cA : ClassId) (n tb : Nat) (A : Nat → Prop) (hn : 12 ≤ n) (hn2 : n ≤ 24) (d : Nat → BitVec 8) (j : Nat) (hj : j < 2) (i a : Nat) (x : Int32) (h1 : i < 8) (h2 : a < 36) : Met l y_C_setLetter w_C_setLetter rm_C_setLetter (va_Pc [.ref (h (2 + j)), .int (nI (i)), .int (nI (a)), .int (x)] (cB D h cA n tb A d)) (va_Qv (fun v => v = setN d (cAr n j + i * 128 + 56 + 2 * a) 2 x.toInt64) (cB D h cA n tb A) A) 0 0 A := by
  refine g_ofW (cc := b_C_setLetter) (maxL := 4) (ret := none) (by decide) rfl (Nat.le_of_ble_eq_true rfl) ?_
  intro p e s m below meth c ls hx hb hml hr hlk hown hts hnm hB hl
  have hown : s.vm.findClass R_C = some m.cls := hown
  have hP := hB.1
  have hK := hB.2.1
  have hS : va_S A s.heap s.heap [] := va_S.rf
  have hl : lv_has ls 4 [(0, .ref (h (2 + j))), (1, .int (nI (i))), (2, .int (nI (a))), (3, .int (x))] := hl
  have hHd := cHd_le hn hj
  have hAr := cAr_le hn hj
  refine lv_aload_n hx hb d_C_setLetter_0 rfl (lv_at hl 0 rfl) ?_
  refine va_get (D := D) (ci := 2) (v := .ref (h 1)) (C := R_C) (T := F_C) (N := 8) hx hb hts (fun w h => .tail _ (fi_C w h)) hown hK hP (2 + j) (cW_C hj) rfl 1 (by decide) (hts _ (.tail _ m_62)) (fun _ h9 => h9) rfl d_C_setLetter_1 ?_
  refine lv_aload_n hx hb d_C_setLetter_4 rfl (lv_at hl 0 rfl) ?_
  refine lv_iload_n hx hb d_C_setLetter_5 rfl (lv_at hl 1 rfl) ?_
  refine g_callVi (As := [.int (nI (i))]) (rest := [.ref (h 1)]) ⟨hx, hb, hml, hown, hts⟩ (C := R_C) (index := 94) (c_C_placeOf l D h cA n tb A hn hn2 (d) (j) hj (i)) (cwV 1 hts (gd_V m_261 m_263 m_11 m_32 m_264) rfl rfl rfl hd_C_placeOf ⟨Nat.le_of_ble_eq_true rfl, Nat.le_of_ble_eq_true rfl⟩) cW_w cX_x hB hP hS (ci := 2) rfl ((2 + j)) (cW_C hj) rfl hl.1 rfl (Nat.le_of_ble_eq_true rfl) d_C_setLetter_6 ⟨Nat.zero_le _, Nat.zero_le _⟩ (fun r_ v_ H locs hw hP hS => ?_)
  obtain ⟨hw1, hw2⟩ := hw; have hw1 := hw1.symm; have hw2 := hw2.symm; subst hw1; subst hw2
  refine lv_bipush (v := nI 56) hx hb d_C_setLetter_9 rfl ?_
  refine lv_iaddN hx hb d_C_setLetter_11 ?_
  refine lv_iconst (v := nI 2) hx hb d_C_setLetter_12 rfl ?_
  refine lv_iload_n hx hb d_C_setLetter_13 rfl (lv_at hl 2 rfl) ?_
  refine lv_imulN hx hb d_C_setLetter_14 ?_
  refine lv_iaddN hx hb d_C_setLetter_15 ?_
  refine lv_iconst (v := nI 2) hx hb d_C_setLetter_16 rfl ?_
  refine lv_iload_n hx hb d_C_setLetter_17 rfl (lv_at hl 3 rfl) ?_
  refine lv_i2l hx hb d_C_setLetter_18 rfl ?_
  refine g_callVv (As := [.int (nI (((cAr n j + i * 128) + 56) + (2 * a))), .int (nI (2)), .long ((x).toInt64)]) (rest := []) ⟨hx, hb, hml, hown, hts⟩ (C := R_B) (index := 110) (c_B_setNumber l D h cA n tb A hn hn2 (d) (((cAr n j + i * 128) + 56) + (2 * a)) (2) ((x).toInt64) (by omega)) (cwV 3 hts (gd_V m_151 m_124 m_125 m_31 m_126) rfl rfl rfl hd_B_setNumber ⟨Nat.le_of_ble_eq_true rfl, Nat.le_of_ble_eq_true rfl⟩) cW_w cX_x hB hP hS (ci := 1) rfl (1) rfl rfl hl.1 rfl (Nat.le_of_ble_eq_true rfl) d_C_setLetter_19 ⟨Nat.zero_le _, Nat.zero_le _⟩ (fun v_ H locs hw hP hS => ?_)
  have hw := hw.symm; subst hw
  exact g_vret hx hb hr hlk cW_w cX_x hB hP hS (rfl) d_C_setLetter_22
abbrev w_C_clearEntry : List Cond := .code y_C_clearEntry b_C_clearEntry 2 none :: ALL
abbrev rm_C_clearEntry : Room := { frames := 1, cells := 0, slots := 0, locals := 23 }
theorem hd_C_clearEntry : y_C_clearEntry.cls = R_C ∧ y_C_clearEntry.cls ≠ "java/lang/invoke/MethodHandle" ∧ y_C_clearEntry.cls ≠ "java/lang/invoke/VarHandle" ∧ (parseMethodDescriptor y_C_clearEntry.desc).map (fun d => d.parameters.length) = some 1 := by decide +kernel
set_option maxHeartbeats 4000000 in
set_option maxRecDepth 100000 in
theorem c_C_clearEntry (l : Launch) (D : va_G) (h : Nat → Nat) (cA : ClassId) (n tb : Nat) (A : Nat → Prop) (hn : 12 ≤ n) (hn2 : n ≤ 24) (d : Nat → BitVec 8) (j : Nat) (hj : j < 2) (i : Nat) (h1 : i < 8) : Met l y_C_clearEntry w_C_clearEntry rm_C_clearEntry (va_Pc [.ref (h (2 + j)), .int (nI (i))] (cB D h cA n tb A d)) (va_Qv (fun v => v = clr d (cAr n j + i * 128) 128) (cB D h cA n tb A) A) 0 0 A := by
  refine g_ofW (cc := b_C_clearEntry) (maxL := 2) (ret := none) (by decide) rfl (Nat.le_of_ble_eq_true rfl) ?_
  intro p e s m below meth c ls hx hb hml hr hlk hown hts hnm hB hl
  have hown : s.vm.findClass R_C = some m.cls := hown
  have hP := hB.1
  have hK := hB.2.1
  have hS : va_S A s.heap s.heap [] := va_S.rf
  have hl : lv_has ls 2 [(0, .ref (h (2 + j))), (1, .int (nI (i)))] := hl
  have hHd := cHd_le hn hj
  have hAr := cAr_le hn hj
  refine lv_aload_n hx hb d_C_clearEntry_0 rfl (lv_at hl 0 rfl) ?_
  refine va_get (D := D) (ci := 2) (v := .ref (h 1)) (C := R_C) (T := F_C) (N := 8) hx hb hts (fun w h => .tail _ (fi_C w h)) hown hK hP (2 + j) (cW_C hj) rfl 1 (by decide) (hts _ (.tail _ m_62)) (fun _ h9 => h9) rfl d_C_clearEntry_1 ?_
  refine lv_aload_n hx hb d_C_clearEntry_4 rfl (lv_at hl 0 rfl) ?_
  refine lv_iload_n hx hb d_C_clearEntry_5 rfl (lv_at hl 1 rfl) ?_
  refine g_callVi (As := [.int (nI (i))]) (rest := [.ref (h 1)]) ⟨hx, hb, hml, hown, hts⟩ (C := R_C) (index := 94) (c_C_placeOf l D h cA n tb A hn hn2 (d) (j) hj (i)) (cwV 1 hts (gd_V m_261 m_263 m_11 m_32 m_264) rfl rfl rfl hd_C_placeOf ⟨Nat.le_of_ble_eq_true rfl, Nat.le_of_ble_eq_true rfl⟩) cW_w cX_x hB hP hS (ci := 2) rfl ((2 + j)) (cW_C hj) rfl hl.1 rfl (Nat.le_of_ble_eq_true rfl) d_C_clearEntry_6 ⟨Nat.zero_le _, Nat.zero_le _⟩ (fun r_ v_ H locs hw hP hS => ?_)
  obtain ⟨hw1, hw2⟩ := hw; have hw1 := hw1.symm; have hw2 := hw2.symm; subst hw1; subst hw2
  refine lv_sipush (v := nI 128) hx hb d_C_clearEntry_9 rfl ?_
  refine g_callVv (As := [.int (nI (cAr n j + i * 128)), .int (nI (128))]) (rest := []) ⟨hx, hb, hml, hown, hts⟩ (C := R_B) (index := 125) (c_B_clear l D h cA n tb A hn hn2 (d) (cAr n j + i * 128) (128) (by omega)) (cwV 2 hts (gd_V m_146 m_136 m_137 m_31 m_138) rfl rfl rfl hd_B_clear ⟨Nat.le_of_ble_eq_true rfl, Nat.le_of_ble_eq_true rfl⟩) cW_w cX_x hB hP hS (ci := 1) rfl (1) rfl rfl hl.1 rfl (Nat.le_of_ble_eq_true rfl) d_C_clearEntry_12 ⟨Nat.zero_le _, Nat.zero_le _⟩ (fun v_ H locs hw hP hS => ?_)
  have hw := hw.symm; subst hw
  exact g_vret hx hb hr hlk cW_w cX_x hB hP hS (rfl) d_C_clearEntry_15
abbrev w_C_clearEntries : List Cond := .code y_C_clearEntries b_C_clearEntries 1 none :: ALL
abbrev rm_C_clearEntries : Room := { frames := 1, cells := 0, slots := 0, locals := 23 }
theorem hd_C_clearEntries : y_C_clearEntries.cls = R_C ∧ y_C_clearEntries.cls ≠ "java/lang/invoke/MethodHandle" ∧ y_C_clearEntries.cls ≠ "java/lang/invoke/VarHandle" ∧ (parseMethodDescriptor y_C_clearEntries.desc).map (fun d => d.parameters.length) = some 0 := by decide +kernel
set_option maxHeartbeats 4000000 in
set_option maxRecDepth 100000 in
theorem c_C_clearEntries (l : Launch) (D : va_G) (h : Nat → Nat) (cA : ClassId) (n tb : Nat) (A : Nat → Prop) (hn : 12 ≤ n) (hn2 : n ≤ 24) (d : Nat → BitVec 8) (j : Nat) (hj : j < 2) : Met l y_C_clearEntries w_C_clearEntries rm_C_clearEntries (va_Pc [.ref (h (2 + j))] (cB D h cA n tb A d)) (va_Qv (fun v => v = clr d (cAr n j) 1024) (cB D h cA n tb A) A) 0 0 A := by
  refine g_ofW (cc := b_C_clearEntries) (maxL := 1) (ret := none) (by decide) rfl (Nat.le_of_ble_eq_true rfl) ?_
  intro p e s m below meth c ls hx hb hml hr hlk hown hts hnm hB hl
  have hown : s.vm.findClass R_C = some m.cls := hown
  have hP := hB.1
  have hK := hB.2.1
  have hS : va_S A s.heap s.heap [] := va_S.rf
  have hl : lv_has ls 1 [(0, .ref (h (2 + j)))] := hl
  have hHd := cHd_le hn hj
  have hAr := cAr_le hn hj
  refine lv_aload_n hx hb d_C_clearEntries_0 rfl (lv_at hl 0 rfl) ?_
  refine va_get (D := D) (ci := 2) (v := .ref (h 1)) (C := R_C) (T := F_C) (N := 8) hx hb hts (fun w h => .tail _ (fi_C w h)) hown hK hP (2 + j) (cW_C hj) rfl 1 (by decide) (hts _ (.tail _ m_62)) (fun _ h9 => h9) rfl d_C_clearEntries_1 ?_
  refine lv_aload_n hx hb d_C_clearEntries_4 rfl (lv_at hl 0 rfl) ?_
  refine va_get (D := D) (ci := 2) (v := .int (nI (cAr n j))) (C := R_C) (T := F_C) (N := 8) hx hb hts (fun w h => .tail _ (fi_C w h)) hown hK hP (2 + j) (cW_C hj) rfl 7 (by decide) (hts _ (.tail _ m_68)) (fun _ h9 => h9) rfl d_C_clearEntries_5 ?_
  refine lv_sipush (v := nI 1024) hx hb d_C_clearEntries_8 rfl ?_
  refine g_callVv (As := [.int (nI (cAr n j)), .int (nI (1024))]) (rest := []) ⟨hx, hb, hml, hown, hts⟩ (C := R_B) (index := 125) (c_B_clear l D h cA n tb A hn hn2 (d) (cAr n j) (1024) (by omega)) (cwV 2 hts (gd_V m_146 m_136 m_137 m_31 m_138) rfl rfl rfl hd_B_clear ⟨Nat.le_of_ble_eq_true rfl, Nat.le_of_ble_eq_true rfl⟩) cW_w cX_x hB hP hS (ci := 1) rfl (1) rfl rfl hl.1 rfl (Nat.le_of_ble_eq_true rfl) d_C_clearEntries_11 ⟨Nat.zero_le _, Nat.zero_le _⟩ (fun v_ H locs hw hP hS => ?_)
  have hw := hw.symm; subst hw
  exact g_vret hx hb hr hlk cW_w cX_x hB hP hS (rfl) d_C_clearEntries_14
abbrev w_C_headerSum : List Cond := .code y_C_headerSum b_C_headerSum 1 (some .int) :: ALL
abbrev rm_C_headerSum : Room := { frames := 3, cells := 0, slots := 0, locals := 73 }
theorem hd_C_headerSum : y_C_headerSum.cls = R_C ∧ y_C_headerSum.cls ≠ "java/lang/invoke/MethodHandle" ∧ y_C_headerSum.cls ≠ "java/lang/invoke/VarHandle" ∧ (parseMethodDescriptor y_C_headerSum.desc).map (fun d => d.parameters.length) = some 0 := by decide +kernel
set_option maxHeartbeats 4000000 in
set_option maxRecDepth 100000 in
theorem c_C_headerSum (l : Launch) (D : va_G) (h : Nat → Nat) (cA : ClassId) (n tb : Nat) (A : Nat → Prop) (hn : 12 ≤ n) (hn2 : n ≤ 24) (d : Nat → BitVec 8) (j : Nat) (hj : j < 2) : Met l y_C_headerSum w_C_headerSum rm_C_headerSum (va_Pc [.ref (h (2 + j))] (cB D h cA n tb A d)) (va_Qi (fun r v => r = smW d (cHd n j + 16) (cHd n j) 92 ∧ v = d) (cB D h cA n tb A) A) 0 0 A := by
  refine g_ofW (cc := b_C_headerSum) (maxL := 1) (ret := (some .int)) (by decide) rfl (Nat.le_of_ble_eq_true rfl) ?_
  intro p e s m below meth c ls hx hb hml hr hlk hown hts hnm hB hl
  have hown : s.vm.findClass R_C = some m.cls := hown
  have hP := hB.1
  have hK := hB.2.1
  have hS : va_S A s.heap s.heap [] := va_S.rf
  have hl : lv_has ls 1 [(0, .ref (h (2 + j)))] := hl
  have hHd := cHd_le hn hj
  have hAr := cAr_le hn hj
  refine lv_aload_n hx hb d_C_headerSum_0 rfl (lv_at hl 0 rfl) ?_
  refine va_get (D := D) (ci := 2) (v := .ref (h 1)) (C := R_C) (T := F_C) (N := 8) hx hb hts (fun w h => .tail _ (fi_C w h)) hown hK hP (2 + j) (cW_C hj) rfl 1 (by decide) (hts _ (.tail _ m_62)) (fun _ h9 => h9) rfl d_C_headerSum_1 ?_
  refine lv_aload_n hx hb d_C_headerSum_4 rfl (lv_at hl 0 rfl) ?_
  refine va_get (D := D) (ci := 2) (v := .int (nI (cHd n j))) (C := R_C) (T := F_C) (N := 8) hx hb hts (fun w h => .tail _ (fi_C w h)) hown hK hP (2 + j) (cW_C hj) rfl 6 (by decide) (hts _ (.tail _ m_67)) (fun _ h9 => h9) rfl d_C_headerSum_5 ?_
  refine lv_bipush (v := nI 16) hx hb d_C_headerSum_8 rfl ?_
  refine lv_iaddN hx hb d_C_headerSum_10 ?_
  refine lv_aload_n hx hb d_C_headerSum_11 rfl (lv_at hl 0 rfl) ?_
  refine va_get (D := D) (ci := 2) (v := .int (nI (cHd n j))) (C := R_C) (T := F_C) (N := 8) hx hb hts (fun w h => .tail _ (fi_C w h)) hown hK hP (2 + j) (cW_C hj) rfl 6 (by decide) (hts _ (.tail _ m_67)) (fun _ h9 => h9) rfl d_C_headerSum_12 ?_
  refine lv_bipush (v := nI 92) hx hb d_C_headerSum_15 rfl ?_
  refine g_callVi (As := [.int (nI ((cHd n j) + 16)), .int (nI (cHd n j)), .int (nI (92))]) (rest := []) ⟨hx, hb, hml, hown, hts⟩ (C := R_B) (index := 102) (c_B_sumWithout l D h cA n tb A hn hn2 (d) ((cHd n j) + 16) (cHd n j) (92) (by omega) (by omega) (by omega)) (cwV 3 hts (gd_V m_215 m_216 m_217 m_31 m_218) rfl rfl rfl hd_B_sumWithout ⟨Nat.le_of_ble_eq_true rfl, Nat.le_of_ble_eq_true rfl⟩) cW_w cX_x hB hP hS (ci := 1) rfl (1) rfl rfl hl.1 rfl (Nat.le_of_ble_eq_true rfl) d_C_headerSum_17 ⟨Nat.zero_le _, Nat.zero_le _⟩ (fun r_ v_ H locs hw hP hS => ?_)
  obtain ⟨hw1, hw2⟩ := hw; have hw1 := hw1.symm; have hw2 := hw2.symm; subst hw1; subst hw2
  exact g_iret (v := (smW d ((cHd n j) + 16) (cHd n j) 92)) hx hb hr hlk cW_w cX_x hB hP hS (⟨rfl, rfl⟩) d_C_headerSum_20
abbrev w_C_arraySum : List Cond := .code y_C_arraySum b_C_arraySum 1 (some .int) :: ALL
abbrev rm_C_arraySum : Room := { frames := 3, cells := 0, slots := 0, locals := 70 }
theorem hd_C_arraySum : y_C_arraySum.cls = R_C ∧ y_C_arraySum.cls ≠ "java/lang/invoke/MethodHandle" ∧ y_C_arraySum.cls ≠ "java/lang/invoke/VarHandle" ∧ (parseMethodDescriptor y_C_arraySum.desc).map (fun d => d.parameters.length) = some 0 := by decide +kernel
set_option maxHeartbeats 4000000 in
set_option maxRecDepth 100000 in
theorem c_C_arraySum (l : Launch) (D : va_G) (h : Nat → Nat) (cA : ClassId) (n tb : Nat) (A : Nat → Prop) (hn : 12 ≤ n) (hn2 : n ≤ 24) (d : Nat → BitVec 8) (j : Nat) (hj : j < 2) : Met l y_C_arraySum w_C_arraySum rm_C_arraySum (va_Pc [.ref (h (2 + j))] (cB D h cA n tb A d)) (va_Qi (fun r v => r = smO d (cAr n j) 1024 ∧ v = d) (cB D h cA n tb A) A) 0 0 A := by
  refine g_ofW (cc := b_C_arraySum) (maxL := 1) (ret := (some .int)) (by decide) rfl (Nat.le_of_ble_eq_true rfl) ?_
  intro p e s m below meth c ls hx hb hml hr hlk hown hts hnm hB hl
  have hown : s.vm.findClass R_C = some m.cls := hown
  have hP := hB.1
  have hK := hB.2.1
  have hS : va_S A s.heap s.heap [] := va_S.rf
  have hl : lv_has ls 1 [(0, .ref (h (2 + j)))] := hl
  have hHd := cHd_le hn hj
  have hAr := cAr_le hn hj
  refine lv_aload_n hx hb d_C_arraySum_0 rfl (lv_at hl 0 rfl) ?_
  refine va_get (D := D) (ci := 2) (v := .ref (h 1)) (C := R_C) (T := F_C) (N := 8) hx hb hts (fun w h => .tail _ (fi_C w h)) hown hK hP (2 + j) (cW_C hj) rfl 1 (by decide) (hts _ (.tail _ m_62)) (fun _ h9 => h9) rfl d_C_arraySum_1 ?_
  refine lv_aload_n hx hb d_C_arraySum_4 rfl (lv_at hl 0 rfl) ?_
  refine va_get (D := D) (ci := 2) (v := .int (nI (cAr n j))) (C := R_C) (T := F_C) (N := 8) hx hb hts (fun w h => .tail _ (fi_C w h)) hown hK hP (2 + j) (cW_C hj) rfl 7 (by decide) (hts _ (.tail _ m_68)) (fun _ h9 => h9) rfl d_C_arraySum_5 ?_
  refine lv_sipush (v := nI 1024) hx hb d_C_arraySum_8 rfl ?_
  refine g_callVi (As := [.int (nI (cAr n j)), .int (nI (1024))]) (rest := []) ⟨hx, hb, hml, hown, hts⟩ (C := R_B) (index := 106) (c_B_sumOf l D h cA n tb A hn hn2 (d) (cAr n j) (1024) (by omega)) (cwV 2 hts (gd_V m_198 m_199 m_200 m_31 m_201) rfl rfl rfl hd_B_sumOf ⟨Nat.le_of_ble_eq_true rfl, Nat.le_of_ble_eq_true rfl⟩) cW_w cX_x hB hP hS (ci := 1) rfl (1) rfl rfl hl.1 rfl (Nat.le_of_ble_eq_true rfl) d_C_arraySum_11 ⟨Nat.zero_le _, Nat.zero_le _⟩ (fun r_ v_ H locs hw hP hS => ?_)
  obtain ⟨hw1, hw2⟩ := hw; have hw1 := hw1.symm; have hw2 := hw2.symm; subst hw1; subst hw2
  exact g_iret (v := (smO d (cAr n j) 1024)) hx hb hr hlk cW_w cX_x hB hP hS (⟨rfl, rfl⟩) d_C_arraySum_14
abbrev w_C_writeSums : List Cond := .code y_C_writeSums b_C_writeSums 1 none :: ALL
abbrev rm_C_writeSums : Room := { frames := 4, cells := 0, slots := 0, locals := 93 }
theorem hd_C_writeSums : y_C_writeSums.cls = R_C ∧ y_C_writeSums.cls ≠ "java/lang/invoke/MethodHandle" ∧ y_C_writeSums.cls ≠ "java/lang/invoke/VarHandle" ∧ (parseMethodDescriptor y_C_writeSums.desc).map (fun d => d.parameters.length) = some 0 := by decide +kernel
set_option maxHeartbeats 4000000 in
set_option maxRecDepth 100000 in
theorem c_C_writeSums (l : Launch) (D : va_G) (h : Nat → Nat) (cA : ClassId) (n tb : Nat) (A : Nat → Prop) (hn : 12 ≤ n) (hn2 : n ≤ 24) (d : Nat → BitVec 8) (j : Nat) (hj : j < 2) : Met l y_C_writeSums w_C_writeSums rm_C_writeSums (va_Pc [.ref (h (2 + j))] (cB D h cA n tb A d)) (va_Qv (fun v => v = wSm n j d) (cB D h cA n tb A) A) 0 0 A := by
  refine g_ofW (cc := b_C_writeSums) (maxL := 1) (ret := none) (by decide) rfl (Nat.le_of_ble_eq_true rfl) ?_
  intro p e s m below meth c ls hx hb hml hr hlk hown hts hnm hB hl
  have hown : s.vm.findClass R_C = some m.cls := hown
  have hP := hB.1
  have hK := hB.2.1
  have hS : va_S A s.heap s.heap [] := va_S.rf
  have hl : lv_has ls 1 [(0, .ref (h (2 + j)))] := hl
  have hHd := cHd_le hn hj
  have hAr := cAr_le hn hj
  refine lv_aload_n hx hb d_C_writeSums_0 rfl (lv_at hl 0 rfl) ?_
  refine va_get (D := D) (ci := 2) (v := .ref (h 1)) (C := R_C) (T := F_C) (N := 8) hx hb hts (fun w h => .tail _ (fi_C w h)) hown hK hP (2 + j) (cW_C hj) rfl 1 (by decide) (hts _ (.tail _ m_62)) (fun _ h9 => h9) rfl d_C_writeSums_1 ?_
  refine lv_aload_n hx hb d_C_writeSums_4 rfl (lv_at hl 0 rfl) ?_
  refine va_get (D := D) (ci := 2) (v := .int (nI (cHd n j))) (C := R_C) (T := F_C) (N := 8) hx hb hts (fun w h => .tail _ (fi_C w h)) hown hK hP (2 + j) (cW_C hj) rfl 6 (by decide) (hts _ (.tail _ m_67)) (fun _ h9 => h9) rfl d_C_writeSums_5 ?_
  refine lv_bipush (v := nI 88) hx hb d_C_writeSums_8 rfl ?_
  refine lv_iaddN hx hb d_C_writeSums_10 ?_
  refine lv_iconst (v := nI 4) hx hb d_C_writeSums_11 rfl ?_
  refine lv_aload_n hx hb d_C_writeSums_12 rfl (lv_at hl 0 rfl) ?_
  refine g_callVi (As := []) (rest := [.int (nI (4)), .int (nI ((cHd n j) + 88)), .ref (h 1)]) ⟨hx, hb, hml, hown, hts⟩ (C := R_C) (index := 60) (c_C_arraySum l D h cA n tb A hn hn2 (d) (j) hj) (cwV 0 hts (gd_V m_194 m_196 m_4 m_32 m_197) rfl rfl rfl hd_C_arraySum ⟨Nat.le_of_ble_eq_true rfl, Nat.le_of_ble_eq_true rfl⟩) cW_w cX_x hB hP hS (ci := 2) rfl ((2 + j)) (cW_C hj) rfl hl.1 rfl (Nat.le_of_ble_eq_true rfl) d_C_writeSums_13 ⟨Nat.zero_le _, Nat.zero_le _⟩ (fun r_ v_ H locs hw hP hS => ?_)
  obtain ⟨hw1, hw2⟩ := hw; have hw1 := hw1.symm; have hw2 := hw2.symm; subst hw1; subst hw2
  refine lv_i2l hx hb d_C_writeSums_16 rfl ?_
  refine g_callVv (As := [.int (nI ((cHd n j) + 88)), .int (nI (4)), .long ((smO d (cAr n j) 1024).toInt64)]) (rest := []) ⟨hx, hb, hml, hown, hts⟩ (C := R_B) (index := 110) (c_B_setNumber l D h cA n tb A hn hn2 (d) ((cHd n j) + 88) (4) ((smO d (cAr n j) 1024).toInt64) (by omega)) (cwV 3 hts (gd_V m_151 m_124 m_125 m_31 m_126) rfl rfl rfl hd_B_setNumber ⟨Nat.le_of_ble_eq_true rfl, Nat.le_of_ble_eq_true rfl⟩) cW_w cX_x hB hP hS (ci := 1) rfl (1) rfl rfl hl.1 rfl (Nat.le_of_ble_eq_true rfl) d_C_writeSums_17 ⟨Nat.zero_le _, Nat.zero_le _⟩ (fun v_ H locs hw hP hS => ?_)
  have hw := hw.symm; subst hw
  refine lv_aload_n hx hb d_C_writeSums_20 rfl (lv_at hl 0 rfl) ?_
  refine va_get (D := D) (ci := 2) (v := .ref (h 1)) (C := R_C) (T := F_C) (N := 8) hx hb hts (fun w h => .tail _ (fi_C w h)) hown hK hP (2 + j) (cW_C hj) rfl 1 (by decide) (hts _ (.tail _ m_62)) (fun _ h9 => h9) rfl d_C_writeSums_21 ?_
  refine lv_aload_n hx hb d_C_writeSums_24 rfl (lv_at hl 0 rfl) ?_
  refine va_get (D := D) (ci := 2) (v := .int (nI (cHd n j))) (C := R_C) (T := F_C) (N := 8) hx hb hts (fun w h => .tail _ (fi_C w h)) hown hK hP (2 + j) (cW_C hj) rfl 6 (by decide) (hts _ (.tail _ m_67)) (fun _ h9 => h9) rfl d_C_writeSums_25 ?_
  refine lv_bipush (v := nI 16) hx hb d_C_writeSums_28 rfl ?_
  refine lv_iaddN hx hb d_C_writeSums_30 ?_
  refine lv_iconst (v := nI 4) hx hb d_C_writeSums_31 rfl ?_
  refine lv_aload_n hx hb d_C_writeSums_32 rfl (lv_at hl 0 rfl) ?_
  refine g_callVi (As := []) (rest := [.int (nI (4)), .int (nI ((cHd n j) + 16)), .ref (h 1)]) ⟨hx, hb, hml, hown, hts⟩ (C := R_C) (index := 53) (c_C_headerSum l D h cA n tb A hn hn2 (setN d ((cHd n j) + 88) 4 ((smO d (cAr n j) 1024).toInt64)) (j) hj) (cwV 0 hts (gd_V m_211 m_213 m_6 m_32 m_214) rfl rfl rfl hd_C_headerSum ⟨Nat.le_of_ble_eq_true rfl, Nat.le_of_ble_eq_true rfl⟩) cW_w cX_x hB hP hS (ci := 2) rfl ((2 + j)) (cW_C hj) rfl hl.1 rfl (Nat.le_of_ble_eq_true rfl) d_C_writeSums_33 ⟨Nat.zero_le _, Nat.zero_le _⟩ (fun r_ v_ H locs hw hP hS => ?_)
  obtain ⟨hw1, hw2⟩ := hw; have hw1 := hw1.symm; have hw2 := hw2.symm; subst hw1; subst hw2
  refine lv_i2l hx hb d_C_writeSums_36 rfl ?_
  refine g_callVv (As := [.int (nI ((cHd n j) + 16)), .int (nI (4)), .long ((smW (setN d ((cHd n j) + 88) 4 ((smO d (cAr n j) 1024).toInt64)) (cHd n j + 16) (cHd n j) 92).toInt64)]) (rest := []) ⟨hx, hb, hml, hown, hts⟩ (C := R_B) (index := 110) (c_B_setNumber l D h cA n tb A hn hn2 (setN d ((cHd n j) + 88) 4 ((smO d (cAr n j) 1024).toInt64)) ((cHd n j) + 16) (4) ((smW (setN d ((cHd n j) + 88) 4 ((smO d (cAr n j) 1024).toInt64)) (cHd n j + 16) (cHd n j) 92).toInt64) (by omega)) (cwV 3 hts (gd_V m_151 m_124 m_125 m_31 m_126) rfl rfl rfl hd_B_setNumber ⟨Nat.le_of_ble_eq_true rfl, Nat.le_of_ble_eq_true rfl⟩) cW_w cX_x hB hP hS (ci := 1) rfl (1) rfl rfl hl.1 rfl (Nat.le_of_ble_eq_true rfl) d_C_writeSums_37 ⟨Nat.zero_le _, Nat.zero_le _⟩ (fun v_ H locs hw hP hS => ?_)
  have hw := hw.symm; subst hw
  exact g_vret hx hb hr hlk cW_w cX_x hB hP hS (rfl) d_C_writeSums_40
abbrev w_C_diskMark : List Cond := .code y_C_diskMark b_C_diskMark 1 (some .long) :: ALL
abbrev rm_C_diskMark : Room := { frames := 1, cells := 0, slots := 0, locals := 25 }
theorem hd_C_diskMark : y_C_diskMark.cls = R_C ∧ y_C_diskMark.cls ≠ "java/lang/invoke/MethodHandle" ∧ y_C_diskMark.cls ≠ "java/lang/invoke/VarHandle" ∧ (parseMethodDescriptor y_C_diskMark.desc).map (fun d => d.parameters.length) = some 0 := by decide +kernel
set_option maxHeartbeats 4000000 in
set_option maxRecDepth 100000 in
theorem c_C_diskMark (l : Launch) (D : va_G) (h : Nat → Nat) (cA : ClassId) (n tb : Nat) (A : Nat → Prop) (hn : 12 ≤ n) (hn2 : n ≤ 24) (d : Nat → BitVec 8) (j : Nat) (hj : j < 2) : Met l y_C_diskMark w_C_diskMark rm_C_diskMark (va_Pc [.ref (h (2 + j))] (cB D h cA n tb A d)) (va_Ql (fun r v => r = num d (cHd n j + 56) 8 ∧ v = d) (cB D h cA n tb A) A) 0 0 A := by
  refine g_ofW (cc := b_C_diskMark) (maxL := 1) (ret := (some .long)) (by decide) rfl (Nat.le_of_ble_eq_true rfl) ?_
  intro p e s m below meth c ls hx hb hml hr hlk hown hts hnm hB hl
  have hown : s.vm.findClass R_C = some m.cls := hown
  have hP := hB.1
  have hK := hB.2.1
  have hS : va_S A s.heap s.heap [] := va_S.rf
  have hl : lv_has ls 1 [(0, .ref (h (2 + j)))] := hl
  have hHd := cHd_le hn hj
  have hAr := cAr_le hn hj
  refine lv_aload_n hx hb d_C_diskMark_0 rfl (lv_at hl 0 rfl) ?_
  refine va_get (D := D) (ci := 2) (v := .ref (h 1)) (C := R_C) (T := F_C) (N := 8) hx hb hts (fun w h => .tail _ (fi_C w h)) hown hK hP (2 + j) (cW_C hj) rfl 1 (by decide) (hts _ (.tail _ m_62)) (fun _ h9 => h9) rfl d_C_diskMark_1 ?_
  refine lv_aload_n hx hb d_C_diskMark_4 rfl (lv_at hl 0 rfl) ?_
  refine va_get (D := D) (ci := 2) (v := .int (nI (cHd n j))) (C := R_C) (T := F_C) (N := 8) hx hb hts (fun w h => .tail _ (fi_C w h)) hown hK hP (2 + j) (cW_C hj) rfl 6 (by decide) (hts _ (.tail _ m_67)) (fun _ h9 => h9) rfl d_C_diskMark_5 ?_
  refine lv_bipush (v := nI 56) hx hb d_C_diskMark_8 rfl ?_
  refine lv_iaddN hx hb d_C_diskMark_10 ?_
  refine lv_bipush (v := nI 8) hx hb d_C_diskMark_11 rfl ?_
  refine g_callVl (As := [.int (nI ((cHd n j) + 56)), .int (nI (8))]) (rest := []) ⟨hx, hb, hml, hown, hts⟩ (C := R_B) (index := 41) (c_B_number l D h cA n tb A hn hn2 (d) ((cHd n j) + 56) (8) (by omega)) (cwV 2 hts (gd_V m_169 m_170 m_171 m_31 m_172) rfl rfl rfl hd_B_number ⟨Nat.le_of_ble_eq_true rfl, Nat.le_of_ble_eq_true rfl⟩) cW_w cX_x hB hP hS (ci := 1) rfl (1) rfl rfl hl.1 rfl (Nat.le_of_ble_eq_true rfl) d_C_diskMark_13 ⟨Nat.zero_le _, Nat.zero_le _⟩ (fun r_ v_ H locs hw hP hS => ?_)
  obtain ⟨hw1, hw2⟩ := hw; have hw1 := hw1.symm; have hw2 := hw2.symm; subst hw1; subst hw2
  exact g_lret (v := (num d ((cHd n j) + 56) 8)) hx hb hr hlk cW_w cX_x hB hP hS (⟨rfl, rfl⟩) d_C_diskMark_16
abbrev w_C_diskMarkTail : List Cond := .code y_C_diskMarkTail b_C_diskMarkTail 1 (some .long) :: ALL
abbrev rm_C_diskMarkTail : Room := { frames := 1, cells := 0, slots := 0, locals := 25 }
theorem hd_C_diskMarkTail : y_C_diskMarkTail.cls = R_C ∧ y_C_diskMarkTail.cls ≠ "java/lang/invoke/MethodHandle" ∧ y_C_diskMarkTail.cls ≠ "java/lang/invoke/VarHandle" ∧ (parseMethodDescriptor y_C_diskMarkTail.desc).map (fun d => d.parameters.length) = some 0 := by decide +kernel
set_option maxHeartbeats 4000000 in
set_option maxRecDepth 100000 in
theorem c_C_diskMarkTail (l : Launch) (D : va_G) (h : Nat → Nat) (cA : ClassId) (n tb : Nat) (A : Nat → Prop) (hn : 12 ≤ n) (hn2 : n ≤ 24) (d : Nat → BitVec 8) (j : Nat) (hj : j < 2) : Met l y_C_diskMarkTail w_C_diskMarkTail rm_C_diskMarkTail (va_Pc [.ref (h (2 + j))] (cB D h cA n tb A d)) (va_Ql (fun r v => r = num d (cHd n j + 56 + 8) 8 ∧ v = d) (cB D h cA n tb A) A) 0 0 A := by
  refine g_ofW (cc := b_C_diskMarkTail) (maxL := 1) (ret := (some .long)) (by decide) rfl (Nat.le_of_ble_eq_true rfl) ?_
  intro p e s m below meth c ls hx hb hml hr hlk hown hts hnm hB hl
  have hown : s.vm.findClass R_C = some m.cls := hown
  have hP := hB.1
  have hK := hB.2.1
  have hS : va_S A s.heap s.heap [] := va_S.rf
  have hl : lv_has ls 1 [(0, .ref (h (2 + j)))] := hl
  have hHd := cHd_le hn hj
  have hAr := cAr_le hn hj
  refine lv_aload_n hx hb d_C_diskMarkTail_0 rfl (lv_at hl 0 rfl) ?_
  refine va_get (D := D) (ci := 2) (v := .ref (h 1)) (C := R_C) (T := F_C) (N := 8) hx hb hts (fun w h => .tail _ (fi_C w h)) hown hK hP (2 + j) (cW_C hj) rfl 1 (by decide) (hts _ (.tail _ m_62)) (fun _ h9 => h9) rfl d_C_diskMarkTail_1 ?_
  refine lv_aload_n hx hb d_C_diskMarkTail_4 rfl (lv_at hl 0 rfl) ?_
  refine va_get (D := D) (ci := 2) (v := .int (nI (cHd n j))) (C := R_C) (T := F_C) (N := 8) hx hb hts (fun w h => .tail _ (fi_C w h)) hown hK hP (2 + j) (cW_C hj) rfl 6 (by decide) (hts _ (.tail _ m_67)) (fun _ h9 => h9) rfl d_C_diskMarkTail_5 ?_
  refine lv_bipush (v := nI 56) hx hb d_C_diskMarkTail_8 rfl ?_
  refine lv_iaddN hx hb d_C_diskMarkTail_10 ?_
  refine lv_bipush (v := nI 8) hx hb d_C_diskMarkTail_11 rfl ?_
  refine lv_iaddN hx hb d_C_diskMarkTail_13 ?_
  refine lv_bipush (v := nI 8) hx hb d_C_diskMarkTail_14 rfl ?_
  refine g_callVl (As := [.int (nI (((cHd n j) + 56) + 8)), .int (nI (8))]) (rest := []) ⟨hx, hb, hml, hown, hts⟩ (C := R_B) (index := 41) (c_B_number l D h cA n tb A hn hn2 (d) (((cHd n j) + 56) + 8) (8) (by omega)) (cwV 2 hts (gd_V m_169 m_170 m_171 m_31 m_172) rfl rfl rfl hd_B_number ⟨Nat.le_of_ble_eq_true rfl, Nat.le_of_ble_eq_true rfl⟩) cW_w cX_x hB hP hS (ci := 1) rfl (1) rfl rfl hl.1 rfl (Nat.le_of_ble_eq_true rfl) d_C_diskMarkTail_16 ⟨Nat.zero_le _, Nat.zero_le _⟩ (fun r_ v_ H locs hw hP hS => ?_)
  obtain ⟨hw1, hw2⟩ := hw; have hw1 := hw1.symm; have hw2 := hw2.symm; subst hw1; subst hw2
  exact g_lret (v := (num d (((cHd n j) + 56) + 8) 8)) hx hb hr hlk cW_w cX_x hB hP hS (⟨rfl, rfl⟩) d_C_diskMarkTail_19
abbrev w_C_setDiskMark : List Cond := .code y_C_setDiskMark b_C_setDiskMark 3 none :: ALL
abbrev rm_C_setDiskMark : Room := { frames := 1, cells := 0, slots := 0, locals := 25 }
theorem hd_C_setDiskMark : y_C_setDiskMark.cls = R_C ∧ y_C_setDiskMark.cls ≠ "java/lang/invoke/MethodHandle" ∧ y_C_setDiskMark.cls ≠ "java/lang/invoke/VarHandle" ∧ (parseMethodDescriptor y_C_setDiskMark.desc).map (fun d => d.parameters.length) = some 1 := by decide +kernel
set_option maxHeartbeats 4000000 in
set_option maxRecDepth 100000 in
theorem c_C_setDiskMark (l : Launch) (D : va_G) (h : Nat → Nat) (cA : ClassId) (n tb : Nat) (A : Nat → Prop) (hn : 12 ≤ n) (hn2 : n ≤ 24) (d : Nat → BitVec 8) (j : Nat) (hj : j < 2) (x : Int64) : Met l y_C_setDiskMark w_C_setDiskMark rm_C_setDiskMark (va_Pc [.ref (h (2 + j)), .long (x)] (cB D h cA n tb A d)) (va_Qv (fun v => v = guid d (cHd n j + 56) x) (cB D h cA n tb A) A) 0 0 A := by
  refine g_ofW (cc := b_C_setDiskMark) (maxL := 3) (ret := none) (by decide) rfl (Nat.le_of_ble_eq_true rfl) ?_
  intro p e s m below meth c ls hx hb hml hr hlk hown hts hnm hB hl
  have hown : s.vm.findClass R_C = some m.cls := hown
  have hP := hB.1
  have hK := hB.2.1
  have hS : va_S A s.heap s.heap [] := va_S.rf
  have hl : lv_has ls 3 [(0, .ref (h (2 + j))), (1, .long (x))] := hl
  have hHd := cHd_le hn hj
  have hAr := cAr_le hn hj
  refine lv_aload_n hx hb d_C_setDiskMark_0 rfl (lv_at hl 0 rfl) ?_
  refine va_get (D := D) (ci := 2) (v := .ref (h 1)) (C := R_C) (T := F_C) (N := 8) hx hb hts (fun w h => .tail _ (fi_C w h)) hown hK hP (2 + j) (cW_C hj) rfl 1 (by decide) (hts _ (.tail _ m_62)) (fun _ h9 => h9) rfl d_C_setDiskMark_1 ?_
  refine lv_aload_n hx hb d_C_setDiskMark_4 rfl (lv_at hl 0 rfl) ?_
  refine va_get (D := D) (ci := 2) (v := .int (nI (cHd n j))) (C := R_C) (T := F_C) (N := 8) hx hb hts (fun w h => .tail _ (fi_C w h)) hown hK hP (2 + j) (cW_C hj) rfl 6 (by decide) (hts _ (.tail _ m_67)) (fun _ h9 => h9) rfl d_C_setDiskMark_5 ?_
  refine lv_bipush (v := nI 56) hx hb d_C_setDiskMark_8 rfl ?_
  refine lv_iaddN hx hb d_C_setDiskMark_10 ?_
  refine lv_bipush (v := nI 8) hx hb d_C_setDiskMark_11 rfl ?_
  refine lv_lload_n hx hb d_C_setDiskMark_13 rfl (lv_at hl 1 rfl) ?_
  refine g_callVv (As := [.int (nI ((cHd n j) + 56)), .int (nI (8)), .long (x)]) (rest := []) ⟨hx, hb, hml, hown, hts⟩ (C := R_B) (index := 110) (c_B_setNumber l D h cA n tb A hn hn2 (d) ((cHd n j) + 56) (8) (x) (by omega)) (cwV 3 hts (gd_V m_151 m_124 m_125 m_31 m_126) rfl rfl rfl hd_B_setNumber ⟨Nat.le_of_ble_eq_true rfl, Nat.le_of_ble_eq_true rfl⟩) cW_w cX_x hB hP hS (ci := 1) rfl (1) rfl rfl hl.1 rfl (Nat.le_of_ble_eq_true rfl) d_C_setDiskMark_14 ⟨Nat.zero_le _, Nat.zero_le _⟩ (fun v_ H locs hw hP hS => ?_)
  have hw := hw.symm; subst hw
  refine lv_aload_n hx hb d_C_setDiskMark_17 rfl (lv_at hl 0 rfl) ?_
  refine va_get (D := D) (ci := 2) (v := .ref (h 1)) (C := R_C) (T := F_C) (N := 8) hx hb hts (fun w h => .tail _ (fi_C w h)) hown hK hP (2 + j) (cW_C hj) rfl 1 (by decide) (hts _ (.tail _ m_62)) (fun _ h9 => h9) rfl d_C_setDiskMark_18 ?_
  refine lv_aload_n hx hb d_C_setDiskMark_21 rfl (lv_at hl 0 rfl) ?_
  refine va_get (D := D) (ci := 2) (v := .int (nI (cHd n j))) (C := R_C) (T := F_C) (N := 8) hx hb hts (fun w h => .tail _ (fi_C w h)) hown hK hP (2 + j) (cW_C hj) rfl 6 (by decide) (hts _ (.tail _ m_67)) (fun _ h9 => h9) rfl d_C_setDiskMark_22 ?_
  refine lv_bipush (v := nI 56) hx hb d_C_setDiskMark_25 rfl ?_
  refine lv_iaddN hx hb d_C_setDiskMark_27 ?_
  refine lv_bipush (v := nI 8) hx hb d_C_setDiskMark_28 rfl ?_
  refine lv_iaddN hx hb d_C_setDiskMark_30 ?_
  refine lv_bipush (v := nI 8) hx hb d_C_setDiskMark_31 rfl ?_
  refine lv_lload_n hx hb d_C_setDiskMark_33 rfl (lv_at hl 1 rfl) ?_
  refine g_callNl (As := [.long (x)]) (rest := [.int (nI (8)), .int (nI (((cHd n j) + 56) + 8)), .ref (h 1)]) ⟨hx, hb, hml, hown, hts⟩ (index := 132) (c_T_guidTail l D h cA n tb A hn hn2 (setN d ((cHd n j) + 56) 8 x) (x)) ⟨va_cnB (host := "TwinTables") 1 hts (gd_C m_154) rfl rfl rfl hB.2.2.2.2.2.2 (hts _ (.tail _ m_30)) hd_T_guidTail.2 ⟨Nat.le_of_ble_eq_true rfl, Nat.le_of_ble_eq_true rfl⟩, hts _ (.tail _ m_153), trivial⟩ cW_w cX_x hB hP hS rfl hl.1 rfl (Nat.le_of_ble_eq_true rfl) d_C_setDiskMark_34 ⟨Nat.zero_le _, Nat.zero_le _⟩ (fun r_ v_ H locs hw hP hS => ?_)
  obtain ⟨hw1, hw2⟩ := hw; have hw1 := hw1.symm; have hw2 := hw2.symm; subst hw1; subst hw2
  refine g_callVv (As := [.int (nI (((cHd n j) + 56) + 8)), .int (nI (8)), .long (gT x)]) (rest := []) ⟨hx, hb, hml, hown, hts⟩ (C := R_B) (index := 110) (c_B_setNumber l D h cA n tb A hn hn2 (setN d ((cHd n j) + 56) 8 x) (((cHd n j) + 56) + 8) (8) (gT x) (by omega)) (cwV 3 hts (gd_V m_151 m_124 m_125 m_31 m_126) rfl rfl rfl hd_B_setNumber ⟨Nat.le_of_ble_eq_true rfl, Nat.le_of_ble_eq_true rfl⟩) cW_w cX_x hB hP hS (ci := 1) rfl (1) rfl rfl hl.1 rfl (Nat.le_of_ble_eq_true rfl) d_C_setDiskMark_37 ⟨Nat.zero_le _, Nat.zero_le _⟩ (fun v_ H locs hw hP hS => ?_)
  have hw := hw.symm; subst hw
  exact g_vret hx hb hr hlk cW_w cX_x hB hP hS (rfl) d_C_setDiskMark_40
abbrev w_C_write : List Cond := .code y_C_write b_C_write 6 none :: ALL
abbrev rm_C_write : Room := { frames := 5, cells := 0, slots := 0, locals := 113 }
theorem hd_C_write : y_C_write.cls = R_C ∧ y_C_write.cls ≠ "java/lang/invoke/MethodHandle" ∧ y_C_write.cls ≠ "java/lang/invoke/VarHandle" ∧ (parseMethodDescriptor y_C_write.desc).map (fun d => d.parameters.length) = some 1 := by decide +kernel
set_option maxHeartbeats 4000000 in
set_option maxRecDepth 100000 in
theorem c_C_write (l : Launch) (D : va_G) (h : Nat → Nat) (cA : ClassId) (n tb : Nat) (A : Nat → Prop) (hn : 12 ≤ n) (hn2 : n ≤ 24) (d : Nat → BitVec 8) (j : Nat) (hj : j < 2) (i : Nat) (hi : i < 2) : Met l y_C_write w_C_write rm_C_write (va_Pc [.ref (h (2 + j)), .ref (h (2 + i))] (cB D h cA n tb A d)) (va_Qv (fun v => v = wrt n j i d) (cB D h cA n tb A) A) 0 0 A := by
  refine g_ofW (cc := b_C_write) (maxL := 6) (ret := none) (by decide) rfl (Nat.le_of_ble_eq_true rfl) ?_
  intro p e s m below meth c ls hx hb hml hr hlk hown hts hnm hB hl
  have hown : s.vm.findClass R_C = some m.cls := hown
  have hP := hB.1
  have hK := hB.2.1
  have hS : va_S A s.heap s.heap [] := va_S.rf
  have hl : lv_has ls 6 [(0, .ref (h (2 + j))), (1, .ref (h (2 + i)))] := hl
  have hHd := cHd_le hn hj
  have hAr := cAr_le hn hj
  have hHd2 := cHd_le hn hi
  have hAr2 := cAr_le hn hi
  refine lv_aload_n hx hb d_C_write_0 rfl (lv_at hl 1 rfl) ?_
  refine g_callVl (As := []) (rest := []) ⟨hx, hb, hml, hown, hts⟩ (C := R_C) (index := 114) (c_C_diskMark l D h cA n tb A hn hn2 (d) (i) hi) (cwV 0 hts (gd_V m_165 m_166 m_167 m_32 m_168) rfl rfl rfl hd_C_diskMark ⟨Nat.le_of_ble_eq_true rfl, Nat.le_of_ble_eq_true rfl⟩) cW_w cX_x hB hP hS (ci := 2) rfl ((2 + i)) (cW_C hi) rfl hl.1 rfl (Nat.le_of_ble_eq_true rfl) d_C_write_1 ⟨Nat.zero_le _, Nat.zero_le _⟩ (fun r_ v_ H locs hw hP hS => ?_)
  obtain ⟨hw1, hw2⟩ := hw; have hw1 := hw1.symm; have hw2 := hw2.symm; subst hw1; subst hw2
  refine lv_lstore_n (lv' := [(2, .long (num d (cHd n i + 56) 8)), (0, .ref (h (2 + j))), (1, .ref (h (2 + i)))]) hx hb d_C_write_4 rfl hl (by decide) rfl (fun ls hl => ?_)
  refine lv_aload_n hx hb d_C_write_5 rfl (lv_at hl 2 rfl) ?_
  refine g_callVl (As := []) (rest := []) ⟨hx, hb, hml, hown, hts⟩ (C := R_C) (index := 118) (c_C_diskMarkTail l D h cA n tb A hn hn2 (d) (i) hi) (cwV 0 hts (gd_V m_173 m_174 m_175 m_32 m_176) rfl rfl rfl hd_C_diskMarkTail ⟨Nat.le_of_ble_eq_true rfl, Nat.le_of_ble_eq_true rfl⟩) cW_w cX_x hB hP hS (ci := 2) rfl ((2 + i)) (cW_C hi) rfl hl.1 rfl (Nat.le_of_ble_eq_true rfl) d_C_write_6 ⟨Nat.zero_le _, Nat.zero_le _⟩ (fun r_ v_ H locs hw hP hS => ?_)
  obtain ⟨hw1, hw2⟩ := hw; have hw1 := hw1.symm; have hw2 := hw2.symm; subst hw1; subst hw2
  refine lv_lstore (lv' := [(4, .long (num d (cHd n i + 56 + 8) 8)), (2, .long (num d (cHd n i + 56) 8)), (0, .ref (h (2 + j))), (1, .ref (h (2 + i)))]) hx hb d_C_write_9 hl (by decide) rfl (fun ls hl => ?_)
  refine lv_aload_n hx hb d_C_write_11 rfl (lv_at hl 2 rfl) ?_
  refine va_get (D := D) (ci := 2) (v := .ref (h 1)) (C := R_C) (T := F_C) (N := 8) hx hb hts (fun w h => .tail _ (fi_C w h)) hown hK hP (2 + j) (cW_C hj) rfl 1 (by decide) (hts _ (.tail _ m_62)) (fun _ h9 => h9) rfl d_C_write_12 ?_
  refine lv_aload_n hx hb d_C_write_15 rfl (lv_at hl 3 rfl) ?_
  refine va_get (D := D) (ci := 2) (v := .int (nI (cAr n i))) (C := R_C) (T := F_C) (N := 8) hx hb hts (fun w h => .tail _ (fi_C w h)) hown hK hP (2 + i) (cW_C hi) rfl 7 (by decide) (hts _ (.tail _ m_68)) (fun _ h9 => h9) rfl d_C_write_16 ?_
  refine lv_aload_n hx hb d_C_write_19 rfl (lv_at hl 2 rfl) ?_
  refine va_get (D := D) (ci := 2) (v := .int (nI (cAr n j))) (C := R_C) (T := F_C) (N := 8) hx hb hts (fun w h => .tail _ (fi_C w h)) hown hK hP (2 + j) (cW_C hj) rfl 7 (by decide) (hts _ (.tail _ m_68)) (fun _ h9 => h9) rfl d_C_write_20 ?_
  refine lv_sipush (v := nI 1024) hx hb d_C_write_23 rfl ?_
  refine g_callVv (As := [.int (nI (cAr n i)), .int (nI (cAr n j)), .int (nI (1024))]) (rest := []) ⟨hx, hb, hml, hown, hts⟩ (C := R_B) (index := 121) (c_B_carry l D h cA n tb A hn hn2 (d) (cAr n i) (cAr n j) (1024) (by omega) (by omega)) (cwV 3 hts (gd_V m_177 m_178 m_179 m_31 m_180) rfl rfl rfl hd_B_carry ⟨Nat.le_of_ble_eq_true rfl, Nat.le_of_ble_eq_true rfl⟩) cW_w cX_x hB hP hS (ci := 1) rfl (1) rfl rfl hl.1 rfl (Nat.le_of_ble_eq_true rfl) d_C_write_26 ⟨Nat.zero_le _, Nat.zero_le _⟩ (fun v_ H locs hw hP hS => ?_)
  have hw := hw.symm; subst hw
  refine lv_aload_n hx hb d_C_write_29 rfl (lv_at hl 2 rfl) ?_
  refine va_get (D := D) (ci := 2) (v := .ref (h 1)) (C := R_C) (T := F_C) (N := 8) hx hb hts (fun w h => .tail _ (fi_C w h)) hown hK hP (2 + j) (cW_C hj) rfl 1 (by decide) (hts _ (.tail _ m_62)) (fun _ h9 => h9) rfl d_C_write_30 ?_
  refine lv_aload_n hx hb d_C_write_33 rfl (lv_at hl 2 rfl) ?_
  refine va_get (D := D) (ci := 2) (v := .int (nI (cHd n j))) (C := R_C) (T := F_C) (N := 8) hx hb hts (fun w h => .tail _ (fi_C w h)) hown hK hP (2 + j) (cW_C hj) rfl 6 (by decide) (hts _ (.tail _ m_67)) (fun _ h9 => h9) rfl d_C_write_34 ?_
  refine lv_sipush (v := nI 512) hx hb d_C_write_37 rfl ?_
  refine g_callVv (As := [.int (nI (cHd n j)), .int (nI (512))]) (rest := []) ⟨hx, hb, hml, hown, hts⟩ (C := R_B) (index := 125) (c_B_clear l D h cA n tb A hn hn2 (cpy d (cAr n i) (cAr n j) 1024) (cHd n j) (512) (by omega)) (cwV 2 hts (gd_V m_146 m_136 m_137 m_31 m_138) rfl rfl rfl hd_B_clear ⟨Nat.le_of_ble_eq_true rfl, Nat.le_of_ble_eq_true rfl⟩) cW_w cX_x hB hP hS (ci := 1) rfl (1) rfl rfl hl.1 rfl (Nat.le_of_ble_eq_true rfl) d_C_write_40 ⟨Nat.zero_le _, Nat.zero_le _⟩ (fun v_ H locs hw hP hS => ?_)
  have hw := hw.symm; subst hw
  refine lv_aload_n hx hb d_C_write_43 rfl (lv_at hl 2 rfl) ?_
  refine va_get (D := D) (ci := 2) (v := .ref (h 1)) (C := R_C) (T := F_C) (N := 8) hx hb hts (fun w h => .tail _ (fi_C w h)) hown hK hP (2 + j) (cW_C hj) rfl 1 (by decide) (hts _ (.tail _ m_62)) (fun _ h9 => h9) rfl d_C_write_44 ?_
  refine lv_aload_n hx hb d_C_write_47 rfl (lv_at hl 2 rfl) ?_
  refine va_get (D := D) (ci := 2) (v := .int (nI (cHd n j))) (C := R_C) (T := F_C) (N := 8) hx hb hts (fun w h => .tail _ (fi_C w h)) hown hK hP (2 + j) (cW_C hj) rfl 6 (by decide) (hts _ (.tail _ m_67)) (fun _ h9 => h9) rfl d_C_write_48 ?_
  refine lv_iconst (v := nI 0) hx hb d_C_write_51 rfl ?_
  refine lv_iaddN hx hb d_C_write_52 ?_
  refine lv_bipush (v := nI 8) hx hb d_C_write_53 rfl ?_
  refine lv_ldc2 (v := 6075990659671082565) hx hb hown (hts _ (.tail _ m_184)) d_C_write_55 ?_
  refine g_callVv (As := [.int (nI ((cHd n j) + 0)), .int (nI (8)), .long (6075990659671082565)]) (rest := []) ⟨hx, hb, hml, hown, hts⟩ (C := R_B) (index := 110) (c_B_setNumber l D h cA n tb A hn hn2 (clr (cpy d (cAr n i) (cAr n j) 1024) (cHd n j) 512) ((cHd n j) + 0) (8) (6075990659671082565) (by omega)) (cwV 3 hts (gd_V m_151 m_124 m_125 m_31 m_126) rfl rfl rfl hd_B_setNumber ⟨Nat.le_of_ble_eq_true rfl, Nat.le_of_ble_eq_true rfl⟩) cW_w cX_x hB hP hS (ci := 1) rfl (1) rfl rfl hl.1 rfl (Nat.le_of_ble_eq_true rfl) d_C_write_58 ⟨Nat.zero_le _, Nat.zero_le _⟩ (fun v_ H locs hw hP hS => ?_)
  have hw := hw.symm; subst hw
  refine lv_aload_n hx hb d_C_write_61 rfl (lv_at hl 2 rfl) ?_
  refine va_get (D := D) (ci := 2) (v := .ref (h 1)) (C := R_C) (T := F_C) (N := 8) hx hb hts (fun w h => .tail _ (fi_C w h)) hown hK hP (2 + j) (cW_C hj) rfl 1 (by decide) (hts _ (.tail _ m_62)) (fun _ h9 => h9) rfl d_C_write_62 ?_
  refine lv_aload_n hx hb d_C_write_65 rfl (lv_at hl 2 rfl) ?_
  refine va_get (D := D) (ci := 2) (v := .int (nI (cHd n j))) (C := R_C) (T := F_C) (N := 8) hx hb hts (fun w h => .tail _ (fi_C w h)) hown hK hP (2 + j) (cW_C hj) rfl 6 (by decide) (hts _ (.tail _ m_67)) (fun _ h9 => h9) rfl d_C_write_66 ?_
  refine lv_bipush (v := nI 8) hx hb d_C_write_69 rfl ?_
  refine lv_iaddN hx hb d_C_write_71 ?_
  refine lv_iconst (v := nI 4) hx hb d_C_write_72 rfl ?_
  refine lv_ldc2 (v := 65536) hx hb hown (hts _ (.tail _ m_185)) d_C_write_73 ?_
  refine g_callVv (As := [.int (nI ((cHd n j) + 8)), .int (nI (4)), .long (65536)]) (rest := []) ⟨hx, hb, hml, hown, hts⟩ (C := R_B) (index := 110) (c_B_setNumber l D h cA n tb A hn hn2 (setN (clr (cpy d (cAr n i) (cAr n j) 1024) (cHd n j) 512) ((cHd n j) + 0) 8 6075990659671082565) ((cHd n j) + 8) (4) (65536) (by omega)) (cwV 3 hts (gd_V m_151 m_124 m_125 m_31 m_126) rfl rfl rfl hd_B_setNumber ⟨Nat.le_of_ble_eq_true rfl, Nat.le_of_ble_eq_true rfl⟩) cW_w cX_x hB hP hS (ci := 1) rfl (1) rfl rfl hl.1 rfl (Nat.le_of_ble_eq_true rfl) d_C_write_76 ⟨Nat.zero_le _, Nat.zero_le _⟩ (fun v_ H locs hw hP hS => ?_)
  have hw := hw.symm; subst hw
  refine lv_aload_n hx hb d_C_write_79 rfl (lv_at hl 2 rfl) ?_
  refine va_get (D := D) (ci := 2) (v := .ref (h 1)) (C := R_C) (T := F_C) (N := 8) hx hb hts (fun w h => .tail _ (fi_C w h)) hown hK hP (2 + j) (cW_C hj) rfl 1 (by decide) (hts _ (.tail _ m_62)) (fun _ h9 => h9) rfl d_C_write_80 ?_
  refine lv_aload_n hx hb d_C_write_83 rfl (lv_at hl 2 rfl) ?_
  refine va_get (D := D) (ci := 2) (v := .int (nI (cHd n j))) (C := R_C) (T := F_C) (N := 8) hx hb hts (fun w h => .tail _ (fi_C w h)) hown hK hP (2 + j) (cW_C hj) rfl 6 (by decide) (hts _ (.tail _ m_67)) (fun _ h9 => h9) rfl d_C_write_84 ?_
  refine lv_bipush (v := nI 12) hx hb d_C_write_87 rfl ?_
  refine lv_iaddN hx hb d_C_write_89 ?_
  refine lv_iconst (v := nI 4) hx hb d_C_write_90 rfl ?_
  refine lv_ldc2 (v := 92) hx hb hown (hts _ (.tail _ m_186)) d_C_write_91 ?_
  refine g_callVv (As := [.int (nI ((cHd n j) + 12)), .int (nI (4)), .long (92)]) (rest := []) ⟨hx, hb, hml, hown, hts⟩ (C := R_B) (index := 110) (c_B_setNumber l D h cA n tb A hn hn2 (setN (setN (clr (cpy d (cAr n i) (cAr n j) 1024) (cHd n j) 512) ((cHd n j) + 0) 8 6075990659671082565) ((cHd n j) + 8) 4 65536) ((cHd n j) + 12) (4) (92) (by omega)) (cwV 3 hts (gd_V m_151 m_124 m_125 m_31 m_126) rfl rfl rfl hd_B_setNumber ⟨Nat.le_of_ble_eq_true rfl, Nat.le_of_ble_eq_true rfl⟩) cW_w cX_x hB hP hS (ci := 1) rfl (1) rfl rfl hl.1 rfl (Nat.le_of_ble_eq_true rfl) d_C_write_94 ⟨Nat.zero_le _, Nat.zero_le _⟩ (fun v_ H locs hw hP hS => ?_)
  have hw := hw.symm; subst hw
  refine lv_aload_n hx hb d_C_write_97 rfl (lv_at hl 2 rfl) ?_
  refine va_get (D := D) (ci := 2) (v := .ref (h 1)) (C := R_C) (T := F_C) (N := 8) hx hb hts (fun w h => .tail _ (fi_C w h)) hown hK hP (2 + j) (cW_C hj) rfl 1 (by decide) (hts _ (.tail _ m_62)) (fun _ h9 => h9) rfl d_C_write_98 ?_
  refine lv_aload_n hx hb d_C_write_101 rfl (lv_at hl 2 rfl) ?_
  refine va_get (D := D) (ci := 2) (v := .int (nI (cHd n j))) (C := R_C) (T := F_C) (N := 8) hx hb hts (fun w h => .tail _ (fi_C w h)) hown hK hP (2 + j) (cW_C hj) rfl 6 (by decide) (hts _ (.tail _ m_67)) (fun _ h9 => h9) rfl d_C_write_102 ?_
  refine lv_bipush (v := nI 24) hx hb d_C_write_105 rfl ?_
  refine lv_iaddN hx hb d_C_write_107 ?_
  refine lv_bipush (v := nI 8) hx hb d_C_write_108 rfl ?_
  refine lv_aload_n hx hb d_C_write_110 rfl (lv_at hl 2 rfl) ?_
  refine va_get (D := D) (ci := 2) (v := .int (nI (cOwn n j))) (C := R_C) (T := F_C) (N := 8) hx hb hts (fun w h => .tail _ (fi_C w h)) hown hK hP (2 + j) (cW_C hj) rfl 2 (by decide) (hts _ (.tail _ m_63)) (fun _ h9 => h9) rfl d_C_write_111 ?_
  refine lv_i2l hx hb d_C_write_114 rfl ?_
  refine g_callVv (As := [.int (nI ((cHd n j) + 24)), .int (nI (8)), .long ((nI (cOwn n j)).toInt64)]) (rest := []) ⟨hx, hb, hml, hown, hts⟩ (C := R_B) (index := 110) (c_B_setNumber l D h cA n tb A hn hn2 (setN (setN (setN (clr (cpy d (cAr n i) (cAr n j) 1024) (cHd n j) 512) ((cHd n j) + 0) 8 6075990659671082565) ((cHd n j) + 8) 4 65536) ((cHd n j) + 12) 4 92) ((cHd n j) + 24) (8) ((nI (cOwn n j)).toInt64) (by omega)) (cwV 3 hts (gd_V m_151 m_124 m_125 m_31 m_126) rfl rfl rfl hd_B_setNumber ⟨Nat.le_of_ble_eq_true rfl, Nat.le_of_ble_eq_true rfl⟩) cW_w cX_x hB hP hS (ci := 1) rfl (1) rfl rfl hl.1 rfl (Nat.le_of_ble_eq_true rfl) d_C_write_115 ⟨Nat.zero_le _, Nat.zero_le _⟩ (fun v_ H locs hw hP hS => ?_)
  have hw := hw.symm; subst hw
  refine lv_aload_n hx hb d_C_write_118 rfl (lv_at hl 2 rfl) ?_
  refine va_get (D := D) (ci := 2) (v := .ref (h 1)) (C := R_C) (T := F_C) (N := 8) hx hb hts (fun w h => .tail _ (fi_C w h)) hown hK hP (2 + j) (cW_C hj) rfl 1 (by decide) (hts _ (.tail _ m_62)) (fun _ h9 => h9) rfl d_C_write_119 ?_
  refine lv_aload_n hx hb d_C_write_122 rfl (lv_at hl 2 rfl) ?_
  refine va_get (D := D) (ci := 2) (v := .int (nI (cHd n j))) (C := R_C) (T := F_C) (N := 8) hx hb hts (fun w h => .tail _ (fi_C w h)) hown hK hP (2 + j) (cW_C hj) rfl 6 (by decide) (hts _ (.tail _ m_67)) (fun _ h9 => h9) rfl d_C_write_123 ?_
  refine lv_bipush (v := nI 32) hx hb d_C_write_126 rfl ?_
  refine lv_iaddN hx hb d_C_write_128 ?_
  refine lv_bipush (v := nI 8) hx hb d_C_write_129 rfl ?_
  refine lv_aload_n hx hb d_C_write_131 rfl (lv_at hl 2 rfl) ?_
  refine va_get (D := D) (ci := 2) (v := .int (nI (cOth n j))) (C := R_C) (T := F_C) (N := 8) hx hb hts (fun w h => .tail _ (fi_C w h)) hown hK hP (2 + j) (cW_C hj) rfl 3 (by decide) (hts _ (.tail _ m_64)) (fun _ h9 => h9) rfl d_C_write_132 ?_
  refine lv_i2l hx hb d_C_write_135 rfl ?_
  refine g_callVv (As := [.int (nI ((cHd n j) + 32)), .int (nI (8)), .long ((nI (cOth n j)).toInt64)]) (rest := []) ⟨hx, hb, hml, hown, hts⟩ (C := R_B) (index := 110) (c_B_setNumber l D h cA n tb A hn hn2 (setN (setN (setN (setN (clr (cpy d (cAr n i) (cAr n j) 1024) (cHd n j) 512) ((cHd n j) + 0) 8 6075990659671082565) ((cHd n j) + 8) 4 65536) ((cHd n j) + 12) 4 92) ((cHd n j) + 24) 8 ((nI (cOwn n j)).toInt64)) ((cHd n j) + 32) (8) ((nI (cOth n j)).toInt64) (by omega)) (cwV 3 hts (gd_V m_151 m_124 m_125 m_31 m_126) rfl rfl rfl hd_B_setNumber ⟨Nat.le_of_ble_eq_true rfl, Nat.le_of_ble_eq_true rfl⟩) cW_w cX_x hB hP hS (ci := 1) rfl (1) rfl rfl hl.1 rfl (Nat.le_of_ble_eq_true rfl) d_C_write_136 ⟨Nat.zero_le _, Nat.zero_le _⟩ (fun v_ H locs hw hP hS => ?_)
  have hw := hw.symm; subst hw
  refine lv_aload_n hx hb d_C_write_139 rfl (lv_at hl 2 rfl) ?_
  refine va_get (D := D) (ci := 2) (v := .ref (h 1)) (C := R_C) (T := F_C) (N := 8) hx hb hts (fun w h => .tail _ (fi_C w h)) hown hK hP (2 + j) (cW_C hj) rfl 1 (by decide) (hts _ (.tail _ m_62)) (fun _ h9 => h9) rfl d_C_write_140 ?_
  refine lv_aload_n hx hb d_C_write_143 rfl (lv_at hl 2 rfl) ?_
  refine va_get (D := D) (ci := 2) (v := .int (nI (cHd n j))) (C := R_C) (T := F_C) (N := 8) hx hb hts (fun w h => .tail _ (fi_C w h)) hown hK hP (2 + j) (cW_C hj) rfl 6 (by decide) (hts _ (.tail _ m_67)) (fun _ h9 => h9) rfl d_C_write_144 ?_
  refine lv_bipush (v := nI 40) hx hb d_C_write_147 rfl ?_
  refine lv_iaddN hx hb d_C_write_149 ?_
  refine lv_bipush (v := nI 8) hx hb d_C_write_150 rfl ?_
  refine lv_ldc2 (v := 4) hx hb hown (hts _ (.tail _ m_187)) d_C_write_152 ?_
  refine g_callVv (As := [.int (nI ((cHd n j) + 40)), .int (nI (8)), .long (4)]) (rest := []) ⟨hx, hb, hml, hown, hts⟩ (C := R_B) (index := 110) (c_B_setNumber l D h cA n tb A hn hn2 (setN (setN (setN (setN (setN (clr (cpy d (cAr n i) (cAr n j) 1024) (cHd n j) 512) ((cHd n j) + 0) 8 6075990659671082565) ((cHd n j) + 8) 4 65536) ((cHd n j) + 12) 4 92) ((cHd n j) + 24) 8 ((nI (cOwn n j)).toInt64)) ((cHd n j) + 32) 8 ((nI (cOth n j)).toInt64)) ((cHd n j) + 40) (8) (4) (by omega)) (cwV 3 hts (gd_V m_151 m_124 m_125 m_31 m_126) rfl rfl rfl hd_B_setNumber ⟨Nat.le_of_ble_eq_true rfl, Nat.le_of_ble_eq_true rfl⟩) cW_w cX_x hB hP hS (ci := 1) rfl (1) rfl rfl hl.1 rfl (Nat.le_of_ble_eq_true rfl) d_C_write_155 ⟨Nat.zero_le _, Nat.zero_le _⟩ (fun v_ H locs hw hP hS => ?_)
  have hw := hw.symm; subst hw
  refine lv_aload_n hx hb d_C_write_158 rfl (lv_at hl 2 rfl) ?_
  refine va_get (D := D) (ci := 2) (v := .ref (h 1)) (C := R_C) (T := F_C) (N := 8) hx hb hts (fun w h => .tail _ (fi_C w h)) hown hK hP (2 + j) (cW_C hj) rfl 1 (by decide) (hts _ (.tail _ m_62)) (fun _ h9 => h9) rfl d_C_write_159 ?_
  refine lv_aload_n hx hb d_C_write_162 rfl (lv_at hl 2 rfl) ?_
  refine va_get (D := D) (ci := 2) (v := .int (nI (cHd n j))) (C := R_C) (T := F_C) (N := 8) hx hb hts (fun w h => .tail _ (fi_C w h)) hown hK hP (2 + j) (cW_C hj) rfl 6 (by decide) (hts _ (.tail _ m_67)) (fun _ h9 => h9) rfl d_C_write_163 ?_
  refine lv_bipush (v := nI 48) hx hb d_C_write_166 rfl ?_
  refine lv_iaddN hx hb d_C_write_168 ?_
  refine lv_bipush (v := nI 8) hx hb d_C_write_169 rfl ?_
  refine lv_aload_n hx hb d_C_write_171 rfl (lv_at hl 2 rfl) ?_
  refine va_get (D := D) (ci := 2) (v := .int (nI (n - 4))) (C := R_C) (T := F_C) (N := 8) hx hb hts (fun w h => .tail _ (fi_C w h)) hown hK hP (2 + j) (cW_C hj) rfl 5 (by decide) (hts _ (.tail _ m_66)) (fun _ h9 => h9) rfl d_C_write_172 ?_
  refine lv_i2l hx hb d_C_write_175 rfl ?_
  refine g_callVv (As := [.int (nI ((cHd n j) + 48)), .int (nI (8)), .long ((nI (n - 4)).toInt64)]) (rest := []) ⟨hx, hb, hml, hown, hts⟩ (C := R_B) (index := 110) (c_B_setNumber l D h cA n tb A hn hn2 (setN (setN (setN (setN (setN (setN (clr (cpy d (cAr n i) (cAr n j) 1024) (cHd n j) 512) ((cHd n j) + 0) 8 6075990659671082565) ((cHd n j) + 8) 4 65536) ((cHd n j) + 12) 4 92) ((cHd n j) + 24) 8 ((nI (cOwn n j)).toInt64)) ((cHd n j) + 32) 8 ((nI (cOth n j)).toInt64)) ((cHd n j) + 40) 8 4) ((cHd n j) + 48) (8) ((nI (n - 4)).toInt64) (by omega)) (cwV 3 hts (gd_V m_151 m_124 m_125 m_31 m_126) rfl rfl rfl hd_B_setNumber ⟨Nat.le_of_ble_eq_true rfl, Nat.le_of_ble_eq_true rfl⟩) cW_w cX_x hB hP hS (ci := 1) rfl (1) rfl rfl hl.1 rfl (Nat.le_of_ble_eq_true rfl) d_C_write_176 ⟨Nat.zero_le _, Nat.zero_le _⟩ (fun v_ H locs hw hP hS => ?_)
  have hw := hw.symm; subst hw
  refine lv_aload_n hx hb d_C_write_179 rfl (lv_at hl 2 rfl) ?_
  refine va_get (D := D) (ci := 2) (v := .ref (h 1)) (C := R_C) (T := F_C) (N := 8) hx hb hts (fun w h => .tail _ (fi_C w h)) hown hK hP (2 + j) (cW_C hj) rfl 1 (by decide) (hts _ (.tail _ m_62)) (fun _ h9 => h9) rfl d_C_write_180 ?_
  refine lv_aload_n hx hb d_C_write_183 rfl (lv_at hl 2 rfl) ?_
  refine va_get (D := D) (ci := 2) (v := .int (nI (cHd n j))) (C := R_C) (T := F_C) (N := 8) hx hb hts (fun w h => .tail _ (fi_C w h)) hown hK hP (2 + j) (cW_C hj) rfl 6 (by decide) (hts _ (.tail _ m_67)) (fun _ h9 => h9) rfl d_C_write_184 ?_
  refine lv_bipush (v := nI 56) hx hb d_C_write_187 rfl ?_
  refine lv_iaddN hx hb d_C_write_189 ?_
  refine lv_bipush (v := nI 8) hx hb d_C_write_190 rfl ?_
  refine lv_lload_n hx hb d_C_write_192 rfl (lv_at hl 1 rfl) ?_
  refine g_callVv (As := [.int (nI ((cHd n j) + 56)), .int (nI (8)), .long (num d (cHd n i + 56) 8)]) (rest := []) ⟨hx, hb, hml, hown, hts⟩ (C := R_B) (index := 110) (c_B_setNumber l D h cA n tb A hn hn2 (setN (setN (setN (setN (setN (setN (setN (clr (cpy d (cAr n i) (cAr n j) 1024) (cHd n j) 512) ((cHd n j) + 0) 8 6075990659671082565) ((cHd n j) + 8) 4 65536) ((cHd n j) + 12) 4 92) ((cHd n j) + 24) 8 ((nI (cOwn n j)).toInt64)) ((cHd n j) + 32) 8 ((nI (cOth n j)).toInt64)) ((cHd n j) + 40) 8 4) ((cHd n j) + 48) 8 ((nI (n - 4)).toInt64)) ((cHd n j) + 56) (8) (num d (cHd n i + 56) 8) (by omega)) (cwV 3 hts (gd_V m_151 m_124 m_125 m_31 m_126) rfl rfl rfl hd_B_setNumber ⟨Nat.le_of_ble_eq_true rfl, Nat.le_of_ble_eq_true rfl⟩) cW_w cX_x hB hP hS (ci := 1) rfl (1) rfl rfl hl.1 rfl (Nat.le_of_ble_eq_true rfl) d_C_write_193 ⟨Nat.zero_le _, Nat.zero_le _⟩ (fun v_ H locs hw hP hS => ?_)
  have hw := hw.symm; subst hw
  refine lv_aload_n hx hb d_C_write_196 rfl (lv_at hl 2 rfl) ?_
  refine va_get (D := D) (ci := 2) (v := .ref (h 1)) (C := R_C) (T := F_C) (N := 8) hx hb hts (fun w h => .tail _ (fi_C w h)) hown hK hP (2 + j) (cW_C hj) rfl 1 (by decide) (hts _ (.tail _ m_62)) (fun _ h9 => h9) rfl d_C_write_197 ?_
  refine lv_aload_n hx hb d_C_write_200 rfl (lv_at hl 2 rfl) ?_
  refine va_get (D := D) (ci := 2) (v := .int (nI (cHd n j))) (C := R_C) (T := F_C) (N := 8) hx hb hts (fun w h => .tail _ (fi_C w h)) hown hK hP (2 + j) (cW_C hj) rfl 6 (by decide) (hts _ (.tail _ m_67)) (fun _ h9 => h9) rfl d_C_write_201 ?_
  refine lv_bipush (v := nI 56) hx hb d_C_write_204 rfl ?_
  refine lv_iaddN hx hb d_C_write_206 ?_
  refine lv_bipush (v := nI 8) hx hb d_C_write_207 rfl ?_
  refine lv_iaddN hx hb d_C_write_209 ?_
  refine lv_bipush (v := nI 8) hx hb d_C_write_210 rfl ?_
  refine lv_lload hx hb d_C_write_212 (lv_at hl 0 rfl) ?_
  refine g_callVv (As := [.int (nI (((cHd n j) + 56) + 8)), .int (nI (8)), .long (num d (cHd n i + 56 + 8) 8)]) (rest := []) ⟨hx, hb, hml, hown, hts⟩ (C := R_B) (index := 110) (c_B_setNumber l D h cA n tb A hn hn2 (setN (setN (setN (setN (setN (setN (setN (setN (clr (cpy d (cAr n i) (cAr n j) 1024) (cHd n j) 512) ((cHd n j) + 0) 8 6075990659671082565) ((cHd n j) + 8) 4 65536) ((cHd n j) + 12) 4 92) ((cHd n j) + 24) 8 ((nI (cOwn n j)).toInt64)) ((cHd n j) + 32) 8 ((nI (cOth n j)).toInt64)) ((cHd n j) + 40) 8 4) ((cHd n j) + 48) 8 ((nI (n - 4)).toInt64)) ((cHd n j) + 56) 8 (num d (cHd n i + 56) 8)) (((cHd n j) + 56) + 8) (8) (num d (cHd n i + 56 + 8) 8) (by omega)) (cwV 3 hts (gd_V m_151 m_124 m_125 m_31 m_126) rfl rfl rfl hd_B_setNumber ⟨Nat.le_of_ble_eq_true rfl, Nat.le_of_ble_eq_true rfl⟩) cW_w cX_x hB hP hS (ci := 1) rfl (1) rfl rfl hl.1 rfl (Nat.le_of_ble_eq_true rfl) d_C_write_214 ⟨Nat.zero_le _, Nat.zero_le _⟩ (fun v_ H locs hw hP hS => ?_)
  have hw := hw.symm; subst hw
  refine lv_aload_n hx hb d_C_write_217 rfl (lv_at hl 2 rfl) ?_
  refine va_get (D := D) (ci := 2) (v := .ref (h 1)) (C := R_C) (T := F_C) (N := 8) hx hb hts (fun w h => .tail _ (fi_C w h)) hown hK hP (2 + j) (cW_C hj) rfl 1 (by decide) (hts _ (.tail _ m_62)) (fun _ h9 => h9) rfl d_C_write_218 ?_
  refine lv_aload_n hx hb d_C_write_221 rfl (lv_at hl 2 rfl) ?_
  refine va_get (D := D) (ci := 2) (v := .int (nI (cHd n j))) (C := R_C) (T := F_C) (N := 8) hx hb hts (fun w h => .tail _ (fi_C w h)) hown hK hP (2 + j) (cW_C hj) rfl 6 (by decide) (hts _ (.tail _ m_67)) (fun _ h9 => h9) rfl d_C_write_222 ?_
  refine lv_bipush (v := nI 72) hx hb d_C_write_225 rfl ?_
  refine lv_iaddN hx hb d_C_write_227 ?_
  refine lv_bipush (v := nI 8) hx hb d_C_write_228 rfl ?_
  refine lv_aload_n hx hb d_C_write_230 rfl (lv_at hl 2 rfl) ?_
  refine va_get (D := D) (ci := 2) (v := .int (nI (cArr n j))) (C := R_C) (T := F_C) (N := 8) hx hb hts (fun w h => .tail _ (fi_C w h)) hown hK hP (2 + j) (cW_C hj) rfl 4 (by decide) (hts _ (.tail _ m_65)) (fun _ h9 => h9) rfl d_C_write_231 ?_
  refine lv_i2l hx hb d_C_write_234 rfl ?_
  refine g_callVv (As := [.int (nI ((cHd n j) + 72)), .int (nI (8)), .long ((nI (cArr n j)).toInt64)]) (rest := []) ⟨hx, hb, hml, hown, hts⟩ (C := R_B) (index := 110) (c_B_setNumber l D h cA n tb A hn hn2 (setN (setN (setN (setN (setN (setN (setN (setN (setN (clr (cpy d (cAr n i) (cAr n j) 1024) (cHd n j) 512) ((cHd n j) + 0) 8 6075990659671082565) ((cHd n j) + 8) 4 65536) ((cHd n j) + 12) 4 92) ((cHd n j) + 24) 8 ((nI (cOwn n j)).toInt64)) ((cHd n j) + 32) 8 ((nI (cOth n j)).toInt64)) ((cHd n j) + 40) 8 4) ((cHd n j) + 48) 8 ((nI (n - 4)).toInt64)) ((cHd n j) + 56) 8 (num d (cHd n i + 56) 8)) (((cHd n j) + 56) + 8) 8 (num d (cHd n i + 56 + 8) 8)) ((cHd n j) + 72) (8) ((nI (cArr n j)).toInt64) (by omega)) (cwV 3 hts (gd_V m_151 m_124 m_125 m_31 m_126) rfl rfl rfl hd_B_setNumber ⟨Nat.le_of_ble_eq_true rfl, Nat.le_of_ble_eq_true rfl⟩) cW_w cX_x hB hP hS (ci := 1) rfl (1) rfl rfl hl.1 rfl (Nat.le_of_ble_eq_true rfl) d_C_write_235 ⟨Nat.zero_le _, Nat.zero_le _⟩ (fun v_ H locs hw hP hS => ?_)
  have hw := hw.symm; subst hw
  refine lv_aload_n hx hb d_C_write_238 rfl (lv_at hl 2 rfl) ?_
  refine va_get (D := D) (ci := 2) (v := .ref (h 1)) (C := R_C) (T := F_C) (N := 8) hx hb hts (fun w h => .tail _ (fi_C w h)) hown hK hP (2 + j) (cW_C hj) rfl 1 (by decide) (hts _ (.tail _ m_62)) (fun _ h9 => h9) rfl d_C_write_239 ?_
  refine lv_aload_n hx hb d_C_write_242 rfl (lv_at hl 2 rfl) ?_
  refine va_get (D := D) (ci := 2) (v := .int (nI (cHd n j))) (C := R_C) (T := F_C) (N := 8) hx hb hts (fun w h => .tail _ (fi_C w h)) hown hK hP (2 + j) (cW_C hj) rfl 6 (by decide) (hts _ (.tail _ m_67)) (fun _ h9 => h9) rfl d_C_write_243 ?_
  refine lv_bipush (v := nI 80) hx hb d_C_write_246 rfl ?_
  refine lv_iaddN hx hb d_C_write_248 ?_
  refine lv_iconst (v := nI 4) hx hb d_C_write_249 rfl ?_
  refine lv_ldc2 (v := 8) hx hb hown (hts _ (.tail _ m_188)) d_C_write_250 ?_
  refine g_callVv (As := [.int (nI ((cHd n j) + 80)), .int (nI (4)), .long (8)]) (rest := []) ⟨hx, hb, hml, hown, hts⟩ (C := R_B) (index := 110) (c_B_setNumber l D h cA n tb A hn hn2 (setN (setN (setN (setN (setN (setN (setN (setN (setN (setN (clr (cpy d (cAr n i) (cAr n j) 1024) (cHd n j) 512) ((cHd n j) + 0) 8 6075990659671082565) ((cHd n j) + 8) 4 65536) ((cHd n j) + 12) 4 92) ((cHd n j) + 24) 8 ((nI (cOwn n j)).toInt64)) ((cHd n j) + 32) 8 ((nI (cOth n j)).toInt64)) ((cHd n j) + 40) 8 4) ((cHd n j) + 48) 8 ((nI (n - 4)).toInt64)) ((cHd n j) + 56) 8 (num d (cHd n i + 56) 8)) (((cHd n j) + 56) + 8) 8 (num d (cHd n i + 56 + 8) 8)) ((cHd n j) + 72) 8 ((nI (cArr n j)).toInt64)) ((cHd n j) + 80) (4) (8) (by omega)) (cwV 3 hts (gd_V m_151 m_124 m_125 m_31 m_126) rfl rfl rfl hd_B_setNumber ⟨Nat.le_of_ble_eq_true rfl, Nat.le_of_ble_eq_true rfl⟩) cW_w cX_x hB hP hS (ci := 1) rfl (1) rfl rfl hl.1 rfl (Nat.le_of_ble_eq_true rfl) d_C_write_253 ⟨Nat.zero_le _, Nat.zero_le _⟩ (fun v_ H locs hw hP hS => ?_)
  have hw := hw.symm; subst hw
  refine lv_aload_n hx hb d_C_write_256 rfl (lv_at hl 2 rfl) ?_
  refine va_get (D := D) (ci := 2) (v := .ref (h 1)) (C := R_C) (T := F_C) (N := 8) hx hb hts (fun w h => .tail _ (fi_C w h)) hown hK hP (2 + j) (cW_C hj) rfl 1 (by decide) (hts _ (.tail _ m_62)) (fun _ h9 => h9) rfl d_C_write_257 ?_
  refine lv_aload_n hx hb d_C_write_260 rfl (lv_at hl 2 rfl) ?_
  refine va_get (D := D) (ci := 2) (v := .int (nI (cHd n j))) (C := R_C) (T := F_C) (N := 8) hx hb hts (fun w h => .tail _ (fi_C w h)) hown hK hP (2 + j) (cW_C hj) rfl 6 (by decide) (hts _ (.tail _ m_67)) (fun _ h9 => h9) rfl d_C_write_261 ?_
  refine lv_bipush (v := nI 84) hx hb d_C_write_264 rfl ?_
  refine lv_iaddN hx hb d_C_write_266 ?_
  refine lv_iconst (v := nI 4) hx hb d_C_write_267 rfl ?_
  refine lv_ldc2 (v := 128) hx hb hown (hts _ (.tail _ m_189)) d_C_write_268 ?_
  refine g_callVv (As := [.int (nI ((cHd n j) + 84)), .int (nI (4)), .long (128)]) (rest := []) ⟨hx, hb, hml, hown, hts⟩ (C := R_B) (index := 110) (c_B_setNumber l D h cA n tb A hn hn2 (setN (setN (setN (setN (setN (setN (setN (setN (setN (setN (setN (clr (cpy d (cAr n i) (cAr n j) 1024) (cHd n j) 512) ((cHd n j) + 0) 8 6075990659671082565) ((cHd n j) + 8) 4 65536) ((cHd n j) + 12) 4 92) ((cHd n j) + 24) 8 ((nI (cOwn n j)).toInt64)) ((cHd n j) + 32) 8 ((nI (cOth n j)).toInt64)) ((cHd n j) + 40) 8 4) ((cHd n j) + 48) 8 ((nI (n - 4)).toInt64)) ((cHd n j) + 56) 8 (num d (cHd n i + 56) 8)) (((cHd n j) + 56) + 8) 8 (num d (cHd n i + 56 + 8) 8)) ((cHd n j) + 72) 8 ((nI (cArr n j)).toInt64)) ((cHd n j) + 80) 4 8) ((cHd n j) + 84) (4) (128) (by omega)) (cwV 3 hts (gd_V m_151 m_124 m_125 m_31 m_126) rfl rfl rfl hd_B_setNumber ⟨Nat.le_of_ble_eq_true rfl, Nat.le_of_ble_eq_true rfl⟩) cW_w cX_x hB hP hS (ci := 1) rfl (1) rfl rfl hl.1 rfl (Nat.le_of_ble_eq_true rfl) d_C_write_271 ⟨Nat.zero_le _, Nat.zero_le _⟩ (fun v_ H locs hw hP hS => ?_)
  have hw := hw.symm; subst hw
  refine lv_aload_n hx hb d_C_write_274 rfl (lv_at hl 2 rfl) ?_
  refine g_callVv (As := []) (rest := []) ⟨hx, hb, hml, hown, hts⟩ (C := R_C) (index := 129) (c_C_writeSums l D h cA n tb A hn hn2 (setN (setN (setN (setN (setN (setN (setN (setN (setN (setN (setN (setN (clr (cpy d (cAr n i) (cAr n j) 1024) (cHd n j) 512) ((cHd n j) + 0) 8 6075990659671082565) ((cHd n j) + 8) 4 65536) ((cHd n j) + 12) 4 92) ((cHd n j) + 24) 8 ((nI (cOwn n j)).toInt64)) ((cHd n j) + 32) 8 ((nI (cOth n j)).toInt64)) ((cHd n j) + 40) 8 4) ((cHd n j) + 48) 8 ((nI (n - 4)).toInt64)) ((cHd n j) + 56) 8 (num d (cHd n i + 56) 8)) (((cHd n j) + 56) + 8) 8 (num d (cHd n i + 56 + 8) 8)) ((cHd n j) + 72) 8 ((nI (cArr n j)).toInt64)) ((cHd n j) + 80) 4 8) ((cHd n j) + 84) 4 128) (j) hj) (cwV 0 hts (gd_V m_190 m_191 m_192 m_32 m_193) rfl rfl rfl hd_C_writeSums ⟨Nat.le_of_ble_eq_true rfl, Nat.le_of_ble_eq_true rfl⟩) cW_w cX_x hB hP hS (ci := 2) rfl ((2 + j)) (cW_C hj) rfl hl.1 rfl (Nat.le_of_ble_eq_true rfl) d_C_write_275 ⟨Nat.zero_le _, Nat.zero_le _⟩ (fun v_ H locs hw hP hS => ?_)
  have hw := hw.symm; subst hw
  exact g_vret hx hb hr hlk cW_w cX_x hB hP hS (rfl) d_C_write_278
abbrev w_C_isLike : List Cond := .code y_C_isLike b_C_isLike 2 (some .boolean) :: ALL
abbrev rm_C_isLike : Room := { frames := 1, cells := 0, slots := 0, locals := 24 }
theorem hd_C_isLike : y_C_isLike.cls = R_C ∧ y_C_isLike.cls ≠ "java/lang/invoke/MethodHandle" ∧ y_C_isLike.cls ≠ "java/lang/invoke/VarHandle" ∧ (parseMethodDescriptor y_C_isLike.desc).map (fun d => d.parameters.length) = some 1 := by decide +kernel
set_option maxHeartbeats 4000000 in
set_option maxRecDepth 100000 in
theorem c_C_isLike (l : Launch) (D : va_G) (h : Nat → Nat) (cA : ClassId) (n tb : Nat) (A : Nat → Prop) (hn : 12 ≤ n) (hn2 : n ≤ 24) (d : Nat → BitVec 8) (j : Nat) (hj : j < 2) (i : Nat) (hi : i < 2) : Met l y_C_isLike w_C_isLike rm_C_isLike (va_Pc [.ref (h (2 + j)), .ref (h (2 + i))] (cB D h cA n tb A d)) (va_Qi (fun r v => r = bI (lik n j i d) ∧ v = d) (cB D h cA n tb A) A) 0 0 A := by
  refine g_ofW (cc := b_C_isLike) (maxL := 2) (ret := (some .boolean)) (by decide) rfl (Nat.le_of_ble_eq_true rfl) ?_
  intro p e s m below meth c ls hx hb hml hr hlk hown hts hnm hB hl
  have hown : s.vm.findClass R_C = some m.cls := hown
  have hP := hB.1
  have hK := hB.2.1
  have hS : va_S A s.heap s.heap [] := va_S.rf
  have hl : lv_has ls 2 [(0, .ref (h (2 + j))), (1, .ref (h (2 + i)))] := hl
  have hHd := cHd_le hn hj
  have hAr := cAr_le hn hj
  have hHd2 := cHd_le hn hi
  have hAr2 := cAr_le hn hi
  refine lv_aload_n hx hb d_C_isLike_0 rfl (lv_at hl 0 rfl) ?_
  refine va_get (D := D) (ci := 2) (v := .ref (h 1)) (C := R_C) (T := F_C) (N := 8) hx hb hts (fun w h => .tail _ (fi_C w h)) hown hK hP (2 + j) (cW_C hj) rfl 1 (by decide) (hts _ (.tail _ m_62)) (fun _ h9 => h9) rfl d_C_isLike_1 ?_
  refine lv_aload_n hx hb d_C_isLike_4 rfl (lv_at hl 0 rfl) ?_
  refine va_get (D := D) (ci := 2) (v := .int (nI (cAr n j))) (C := R_C) (T := F_C) (N := 8) hx hb hts (fun w h => .tail _ (fi_C w h)) hown hK hP (2 + j) (cW_C hj) rfl 7 (by decide) (hts _ (.tail _ m_68)) (fun _ h9 => h9) rfl d_C_isLike_5 ?_
  refine lv_aload_n hx hb d_C_isLike_8 rfl (lv_at hl 1 rfl) ?_
  refine va_get (D := D) (ci := 2) (v := .int (nI (cAr n i))) (C := R_C) (T := F_C) (N := 8) hx hb hts (fun w h => .tail _ (fi_C w h)) hown hK hP (2 + i) (cW_C hi) rfl 7 (by decide) (hts _ (.tail _ m_68)) (fun _ h9 => h9) rfl d_C_isLike_9 ?_
  refine lv_sipush (v := nI 1024) hx hb d_C_isLike_12 rfl ?_
  refine g_callVi (As := [.int (nI (cAr n j)), .int (nI (cAr n i)), .int (nI (1024))]) (rest := []) ⟨hx, hb, hml, hown, hts⟩ (C := R_B) (index := 98) (c_B_areAlike l D h cA n tb A hn hn2 (d) (cAr n j) (cAr n i) (1024) (by omega) (by omega)) (cwV 3 hts (gd_V m_282 m_283 m_284 m_31 m_285) rfl rfl rfl hd_B_areAlike ⟨Nat.le_of_ble_eq_true rfl, Nat.le_of_ble_eq_true rfl⟩) cW_w cX_x hB hP hS (ci := 1) rfl (1) rfl rfl hl.1 rfl (Nat.le_of_ble_eq_true rfl) d_C_isLike_15 ⟨Nat.zero_le _, Nat.zero_le _⟩ (fun r_ v_ H locs hw hP hS => ?_)
  obtain ⟨hw1, hw2⟩ := hw; have hw1 := hw1.symm; have hw2 := hw2.symm; subst hw1; subst hw2
  refine lv_if_eq (tgt := 51) hx hb d_C_isLike_18 (by decide) (fun c_18 => ?_) (fun c_18 => ?_)
  · have c_18 := bI_0.mp c_18
    refine lv_iconst (v := nI 0) hx hb d_C_isLike_51 rfl ?_
    exact g_zret (v := (nI (0))) hx hb hr (rfl) hlk cW_w cX_x hB hP hS (⟨(bI_f (fun z => c_18 z.1)).symm, rfl⟩) d_C_isLike_52
  · have c_18 := bI_1 c_18
    refine lv_aload_n hx hb d_C_isLike_21 rfl (lv_at hl 0 rfl) ?_
    refine va_get (D := D) (ci := 2) (v := .ref (h 1)) (C := R_C) (T := F_C) (N := 8) hx hb hts (fun w h => .tail _ (fi_C w h)) hown hK hP (2 + j) (cW_C hj) rfl 1 (by decide) (hts _ (.tail _ m_62)) (fun _ h9 => h9) rfl d_C_isLike_22 ?_
    refine lv_aload_n hx hb d_C_isLike_25 rfl (lv_at hl 0 rfl) ?_
    refine va_get (D := D) (ci := 2) (v := .int (nI (cHd n j))) (C := R_C) (T := F_C) (N := 8) hx hb hts (fun w h => .tail _ (fi_C w h)) hown hK hP (2 + j) (cW_C hj) rfl 6 (by decide) (hts _ (.tail _ m_67)) (fun _ h9 => h9) rfl d_C_isLike_26 ?_
    refine lv_bipush (v := nI 56) hx hb d_C_isLike_29 rfl ?_
    refine lv_iaddN hx hb d_C_isLike_31 ?_
    refine lv_aload_n hx hb d_C_isLike_32 rfl (lv_at hl 1 rfl) ?_
    refine va_get (D := D) (ci := 2) (v := .int (nI (cHd n i))) (C := R_C) (T := F_C) (N := 8) hx hb hts (fun w h => .tail _ (fi_C w h)) hown hK hP (2 + i) (cW_C hi) rfl 6 (by decide) (hts _ (.tail _ m_67)) (fun _ h9 => h9) rfl d_C_isLike_33 ?_
    refine lv_bipush (v := nI 56) hx hb d_C_isLike_36 rfl ?_
    refine lv_iaddN hx hb d_C_isLike_38 ?_
    refine lv_bipush (v := nI 16) hx hb d_C_isLike_39 rfl ?_
    refine g_callVi (As := [.int (nI ((cHd n j) + 56)), .int (nI ((cHd n i) + 56)), .int (nI (16))]) (rest := []) ⟨hx, hb, hml, hown, hts⟩ (C := R_B) (index := 98) (c_B_areAlike l D h cA n tb A hn hn2 (d) ((cHd n j) + 56) ((cHd n i) + 56) (16) (by omega) (by omega)) (cwV 3 hts (gd_V m_282 m_283 m_284 m_31 m_285) rfl rfl rfl hd_B_areAlike ⟨Nat.le_of_ble_eq_true rfl, Nat.le_of_ble_eq_true rfl⟩) cW_w cX_x hB hP hS (ci := 1) rfl (1) rfl rfl hl.1 rfl (Nat.le_of_ble_eq_true rfl) d_C_isLike_41 ⟨Nat.zero_le _, Nat.zero_le _⟩ (fun r_ v_ H locs hw hP hS => ?_)
    obtain ⟨hw1, hw2⟩ := hw; have hw1 := hw1.symm; have hw2 := hw2.symm; subst hw1; subst hw2
    refine lv_if_eq (tgt := 51) hx hb d_C_isLike_44 (by decide) (fun c_44 => ?_) (fun c_44 => ?_)
    · have c_44 := bI_0.mp c_44
      refine lv_iconst (v := nI 0) hx hb d_C_isLike_51 rfl ?_
      exact g_zret (v := (nI (0))) hx hb hr (rfl) hlk cW_w cX_x hB hP hS (⟨(bI_f (fun z => c_44 z.2)).symm, rfl⟩) d_C_isLike_52
    · have c_44 := bI_1 c_44
      refine lv_iconst (v := nI 1) hx hb d_C_isLike_47 rfl ?_
      refine lv_goto (tgt := 52) hx hb d_C_isLike_48 (by decide) ?_
      exact g_zret (v := (nI (1))) hx hb hr (rfl) hlk cW_w cX_x hB hP hS (⟨(bI_t ⟨c_18, c_44⟩).symm, rfl⟩) d_C_isLike_52
abbrev w_C_isUsable : List Cond := .code y_C_isUsable b_C_isUsable 5 (some .boolean) :: ALL
abbrev rm_C_isUsable : Room := { frames := 0, cells := 0, slots := 0, locals := 0 }
theorem hd_C_isUsable : y_C_isUsable.cls = R_C ∧ y_C_isUsable.cls ≠ "java/lang/invoke/MethodHandle" ∧ y_C_isUsable.cls ≠ "java/lang/invoke/VarHandle" ∧ (parseMethodDescriptor y_C_isUsable.desc).map (fun d => d.parameters.length) = some 2 := by decide +kernel
set_option maxHeartbeats 4000000 in
set_option maxRecDepth 100000 in
theorem c_C_isUsable (l : Launch) (D : va_G) (h : Nat → Nat) (cA : ClassId) (n tb : Nat) (A : Nat → Prop) (hn : 12 ≤ n) (hn2 : n ≤ 24) (d : Nat → BitVec 8) (j : Nat) (hj : j < 2) (x y : Int64) : Met l y_C_isUsable w_C_isUsable rm_C_isUsable (va_Pc [.ref (h (2 + j)), .long (x), .long (y)] (cB D h cA n tb A d)) (va_Qi (fun r v => r = bI (usa n x y) ∧ v = d) (cB D h cA n tb A) A) 0 0 A := by
  refine g_ofW (cc := b_C_isUsable) (maxL := 5) (ret := (some .boolean)) (by decide) rfl (Nat.le_of_ble_eq_true rfl) ?_
  intro p e s m below meth c ls hx hb hml hr hlk hown hts hnm hB hl
  have hown : s.vm.findClass R_C = some m.cls := hown
  have hP := hB.1
  have hK := hB.2.1
  have hS : va_S A s.heap s.heap [] := va_S.rf
  have hl : lv_has ls 5 [(0, .ref (h (2 + j))), (1, .long (x)), (3, .long (y))] := hl
  have hHd := cHd_le hn hj
  have hAr := cAr_le hn hj
  refine lv_lload_n hx hb d_C_isUsable_0 rfl (lv_at hl 1 rfl) ?_
  refine lv_ldc2 (v := 4) hx hb hown (hts _ (.tail _ m_187)) d_C_isUsable_1 ?_
  refine W.lcmp hx hb d_C_isUsable_4 ?_
  refine lv_if_lt (tgt := 28) hx hb d_C_isUsable_5 (by decide) (fun c_5 => ?_) (fun c_5 => ?_)
  · have c_5 := (lg_cmp_lt _ _).mp c_5
    refine lv_iconst (v := nI 0) hx hb d_C_isUsable_28 rfl ?_
    exact g_zret (v := (nI (0))) hx hb hr (rfl) hlk cW_w cX_x hB hP hS (⟨(bI_f (fun z => z.1 c_5)).symm, rfl⟩) d_C_isUsable_29
  · have c_5 := fun z => c_5 ((lg_cmp_lt _ _).mpr z)
    refine lv_lload_n hx hb d_C_isUsable_8 rfl (lv_at hl 2 rfl) ?_
    refine lv_aload_n hx hb d_C_isUsable_9 rfl (lv_at hl 0 rfl) ?_
    refine va_get (D := D) (ci := 2) (v := .int (nI (n - 4))) (C := R_C) (T := F_C) (N := 8) hx hb hts (fun w h => .tail _ (fi_C w h)) hown hK hP (2 + j) (cW_C hj) rfl 5 (by decide) (hts _ (.tail _ m_66)) (fun _ h9 => h9) rfl d_C_isUsable_10 ?_
    refine lv_i2l hx hb d_C_isUsable_13 rfl ?_
    refine W.lcmp hx hb d_C_isUsable_14 ?_
    refine lv_if_gt (tgt := 28) hx hb d_C_isUsable_15 (by decide) (fun c_15 => ?_) (fun c_15 => ?_)
    · have c_15 := (lg_cmp_gt _ _).mp c_15
      refine lv_iconst (v := nI 0) hx hb d_C_isUsable_28 rfl ?_
      exact g_zret (v := (nI (0))) hx hb hr (rfl) hlk cW_w cX_x hB hP hS (⟨(bI_f (fun z => z.2.1 c_15)).symm, rfl⟩) d_C_isUsable_29
    · have c_15 := fun z => c_15 ((lg_cmp_gt _ _).mpr z)
      refine lv_lload_n hx hb d_C_isUsable_18 rfl (lv_at hl 1 rfl) ?_
      refine lv_lload_n hx hb d_C_isUsable_19 rfl (lv_at hl 2 rfl) ?_
      refine W.lcmp hx hb d_C_isUsable_20 ?_
      refine lv_if_gt (tgt := 28) hx hb d_C_isUsable_21 (by decide) (fun c_21 => ?_) (fun c_21 => ?_)
      · have c_21 := (lg_cmp_gt _ _).mp c_21
        refine lv_iconst (v := nI 0) hx hb d_C_isUsable_28 rfl ?_
        exact g_zret (v := (nI (0))) hx hb hr (rfl) hlk cW_w cX_x hB hP hS (⟨(bI_f (fun z => z.2.2 c_21)).symm, rfl⟩) d_C_isUsable_29
      · have c_21 := fun z => c_21 ((lg_cmp_gt _ _).mpr z)
        refine lv_iconst (v := nI 1) hx hb d_C_isUsable_24 rfl ?_
        refine lv_goto (tgt := 29) hx hb d_C_isUsable_25 (by decide) ?_
        exact g_zret (v := (nI (1))) hx hb hr (rfl) hlk cW_w cX_x hB hP hS (⟨(bI_t ⟨c_5, c_15, c_21⟩).symm, rfl⟩) d_C_isUsable_29
abbrev w_C_isKindRight : List Cond := .code y_C_isKindRight b_C_isKindRight 1 (some .boolean) :: ALL
abbrev rm_C_isKindRight : Room := { frames := 1, cells := 0, slots := 0, locals := 25 }
theorem hd_C_isKindRight : y_C_isKindRight.cls = R_C ∧ y_C_isKindRight.cls ≠ "java/lang/invoke/MethodHandle" ∧ y_C_isKindRight.cls ≠ "java/lang/invoke/VarHandle" ∧ (parseMethodDescriptor y_C_isKindRight.desc).map (fun d => d.parameters.length) = some 0 := by decide +kernel
set_option maxHeartbeats 4000000 in
set_option maxRecDepth 100000 in
theorem c_C_isKindRight (l : Launch) (D : va_G) (h : Nat → Nat) (cA : ClassId) (n tb : Nat) (A : Nat → Prop) (hn : 12 ≤ n) (hn2 : n ≤ 24) (d : Nat → BitVec 8) (j : Nat) (hj : j < 2) : Met l y_C_isKindRight w_C_isKindRight rm_C_isKindRight (va_Pc [.ref (h (2 + j))] (cB D h cA n tb A d)) (va_Qi (fun r v => r = bI (kiR d (cHd n j)) ∧ v = d) (cB D h cA n tb A) A) 0 0 A := by
  refine g_ofW (cc := b_C_isKindRight) (maxL := 1) (ret := (some .boolean)) (by decide) rfl (Nat.le_of_ble_eq_true rfl) ?_
  intro p e s m below meth c ls hx hb hml hr hlk hown hts hnm hB hl
  have hown : s.vm.findClass R_C = some m.cls := hown
  have hP := hB.1
  have hK := hB.2.1
  have hS : va_S A s.heap s.heap [] := va_S.rf
  have hl : lv_has ls 1 [(0, .ref (h (2 + j)))] := hl
  have hHd := cHd_le hn hj
  have hAr := cAr_le hn hj
  refine lv_aload_n hx hb d_C_isKindRight_0 rfl (lv_at hl 0 rfl) ?_
  refine va_get (D := D) (ci := 2) (v := .ref (h 1)) (C := R_C) (T := F_C) (N := 8) hx hb hts (fun w h => .tail _ (fi_C w h)) hown hK hP (2 + j) (cW_C hj) rfl 1 (by decide) (hts _ (.tail _ m_62)) (fun _ h9 => h9) rfl d_C_isKindRight_1 ?_
  refine lv_aload_n hx hb d_C_isKindRight_4 rfl (lv_at hl 0 rfl) ?_
  refine va_get (D := D) (ci := 2) (v := .int (nI (cHd n j))) (C := R_C) (T := F_C) (N := 8) hx hb hts (fun w h => .tail _ (fi_C w h)) hown hK hP (2 + j) (cW_C hj) rfl 6 (by decide) (hts _ (.tail _ m_67)) (fun _ h9 => h9) rfl d_C_isKindRight_5 ?_
  refine lv_bipush (v := nI 8) hx hb d_C_isKindRight_8 rfl ?_
  refine lv_iaddN hx hb d_C_isKindRight_10 ?_
  refine lv_iconst (v := nI 4) hx hb d_C_isKindRight_11 rfl ?_
  refine g_callVl (As := [.int (nI ((cHd n j) + 8)), .int (nI (4))]) (rest := []) ⟨hx, hb, hml, hown, hts⟩ (C := R_B) (index := 41) (c_B_number l D h cA n tb A hn hn2 (d) ((cHd n j) + 8) (4) (by omega)) (cwV 2 hts (gd_V m_169 m_170 m_171 m_31 m_172) rfl rfl rfl hd_B_number ⟨Nat.le_of_ble_eq_true rfl, Nat.le_of_ble_eq_true rfl⟩) cW_w cX_x hB hP hS (ci := 1) rfl (1) rfl rfl hl.1 rfl (Nat.le_of_ble_eq_true rfl) d_C_isKindRight_12 ⟨Nat.zero_le _, Nat.zero_le _⟩ (fun r_ v_ H locs hw hP hS => ?_)
  obtain ⟨hw1, hw2⟩ := hw; have hw1 := hw1.symm; have hw2 := hw2.symm; subst hw1; subst hw2
  refine lv_ldc2 (v := 65536) hx hb hown (hts _ (.tail _ m_185)) d_C_isKindRight_15 ?_
  refine W.lcmp hx hb d_C_isKindRight_18 ?_
  refine lv_if_ne (tgt := 68) hx hb d_C_isKindRight_19 (by decide) (fun c_19 => ?_) (fun c_19 => ?_)
  · have c_19 := fun z => c_19 ((lg_cmp_eq _ _).mpr z)
    refine lv_iconst (v := nI 0) hx hb d_C_isKindRight_68 rfl ?_
    exact g_zret (v := (nI (0))) hx hb hr (rfl) hlk cW_w cX_x hB hP hS (⟨(bI_f (fun z => c_19 z.1)).symm, rfl⟩) d_C_isKindRight_69
  · have c_19 := (lg_cmp_eq _ _).mp c_19
    refine lv_aload_n hx hb d_C_isKindRight_22 rfl (lv_at hl 0 rfl) ?_
    refine va_get (D := D) (ci := 2) (v := .ref (h 1)) (C := R_C) (T := F_C) (N := 8) hx hb hts (fun w h => .tail _ (fi_C w h)) hown hK hP (2 + j) (cW_C hj) rfl 1 (by decide) (hts _ (.tail _ m_62)) (fun _ h9 => h9) rfl d_C_isKindRight_23 ?_
    refine lv_aload_n hx hb d_C_isKindRight_26 rfl (lv_at hl 0 rfl) ?_
    refine va_get (D := D) (ci := 2) (v := .int (nI (cHd n j))) (C := R_C) (T := F_C) (N := 8) hx hb hts (fun w h => .tail _ (fi_C w h)) hown hK hP (2 + j) (cW_C hj) rfl 6 (by decide) (hts _ (.tail _ m_67)) (fun _ h9 => h9) rfl d_C_isKindRight_27 ?_
    refine lv_bipush (v := nI 12) hx hb d_C_isKindRight_30 rfl ?_
    refine lv_iaddN hx hb d_C_isKindRight_32 ?_
    refine lv_iconst (v := nI 4) hx hb d_C_isKindRight_33 rfl ?_
    refine g_callVl (As := [.int (nI ((cHd n j) + 12)), .int (nI (4))]) (rest := []) ⟨hx, hb, hml, hown, hts⟩ (C := R_B) (index := 41) (c_B_number l D h cA n tb A hn hn2 (d) ((cHd n j) + 12) (4) (by omega)) (cwV 2 hts (gd_V m_169 m_170 m_171 m_31 m_172) rfl rfl rfl hd_B_number ⟨Nat.le_of_ble_eq_true rfl, Nat.le_of_ble_eq_true rfl⟩) cW_w cX_x hB hP hS (ci := 1) rfl (1) rfl rfl hl.1 rfl (Nat.le_of_ble_eq_true rfl) d_C_isKindRight_34 ⟨Nat.zero_le _, Nat.zero_le _⟩ (fun r_ v_ H locs hw hP hS => ?_)
    obtain ⟨hw1, hw2⟩ := hw; have hw1 := hw1.symm; have hw2 := hw2.symm; subst hw1; subst hw2
    refine lv_ldc2 (v := 92) hx hb hown (hts _ (.tail _ m_186)) d_C_isKindRight_37 ?_
    refine W.lcmp hx hb d_C_isKindRight_40 ?_
    refine lv_if_ne (tgt := 68) hx hb d_C_isKindRight_41 (by decide) (fun c_41 => ?_) (fun c_41 => ?_)
    · have c_41 := fun z => c_41 ((lg_cmp_eq _ _).mpr z)
      refine lv_iconst (v := nI 0) hx hb d_C_isKindRight_68 rfl ?_
      exact g_zret (v := (nI (0))) hx hb hr (rfl) hlk cW_w cX_x hB hP hS (⟨(bI_f (fun z => c_41 z.2.1)).symm, rfl⟩) d_C_isKindRight_69
    · have c_41 := (lg_cmp_eq _ _).mp c_41
      refine lv_aload_n hx hb d_C_isKindRight_44 rfl (lv_at hl 0 rfl) ?_
      refine va_get (D := D) (ci := 2) (v := .ref (h 1)) (C := R_C) (T := F_C) (N := 8) hx hb hts (fun w h => .tail _ (fi_C w h)) hown hK hP (2 + j) (cW_C hj) rfl 1 (by decide) (hts _ (.tail _ m_62)) (fun _ h9 => h9) rfl d_C_isKindRight_45 ?_
      refine lv_aload_n hx hb d_C_isKindRight_48 rfl (lv_at hl 0 rfl) ?_
      refine va_get (D := D) (ci := 2) (v := .int (nI (cHd n j))) (C := R_C) (T := F_C) (N := 8) hx hb hts (fun w h => .tail _ (fi_C w h)) hown hK hP (2 + j) (cW_C hj) rfl 6 (by decide) (hts _ (.tail _ m_67)) (fun _ h9 => h9) rfl d_C_isKindRight_49 ?_
      refine lv_bipush (v := nI 20) hx hb d_C_isKindRight_52 rfl ?_
      refine lv_iaddN hx hb d_C_isKindRight_54 ?_
      refine lv_iconst (v := nI 4) hx hb d_C_isKindRight_55 rfl ?_
      refine g_callVl (As := [.int (nI ((cHd n j) + 20)), .int (nI (4))]) (rest := []) ⟨hx, hb, hml, hown, hts⟩ (C := R_B) (index := 41) (c_B_number l D h cA n tb A hn hn2 (d) ((cHd n j) + 20) (4) (by omega)) (cwV 2 hts (gd_V m_169 m_170 m_171 m_31 m_172) rfl rfl rfl hd_B_number ⟨Nat.le_of_ble_eq_true rfl, Nat.le_of_ble_eq_true rfl⟩) cW_w cX_x hB hP hS (ci := 1) rfl (1) rfl rfl hl.1 rfl (Nat.le_of_ble_eq_true rfl) d_C_isKindRight_56 ⟨Nat.zero_le _, Nat.zero_le _⟩ (fun r_ v_ H locs hw hP hS => ?_)
      obtain ⟨hw1, hw2⟩ := hw; have hw1 := hw1.symm; have hw2 := hw2.symm; subst hw1; subst hw2
      refine lv_lconst (v := 0) hx hb d_C_isKindRight_59 rfl ?_
      refine W.lcmp hx hb d_C_isKindRight_60 ?_
      refine lv_if_ne (tgt := 68) hx hb d_C_isKindRight_61 (by decide) (fun c_61 => ?_) (fun c_61 => ?_)
      · have c_61 := fun z => c_61 ((lg_cmp_eq _ _).mpr z)
        refine lv_iconst (v := nI 0) hx hb d_C_isKindRight_68 rfl ?_
        exact g_zret (v := (nI (0))) hx hb hr (rfl) hlk cW_w cX_x hB hP hS (⟨(bI_f (fun z => c_61 z.2.2)).symm, rfl⟩) d_C_isKindRight_69
      · have c_61 := (lg_cmp_eq _ _).mp c_61
        refine lv_iconst (v := nI 1) hx hb d_C_isKindRight_64 rfl ?_
        refine lv_goto (tgt := 69) hx hb d_C_isKindRight_65 (by decide) ?_
        exact g_zret (v := (nI (1))) hx hb hr (rfl) hlk cW_w cX_x hB hP hS (⟨(bI_t ⟨c_19, c_41, c_61⟩).symm, rfl⟩) d_C_isKindRight_69
abbrev w_C_isLayoutRight : List Cond := .code y_C_isLayoutRight b_C_isLayoutRight 1 (some .boolean) :: ALL
abbrev rm_C_isLayoutRight : Room := { frames := 1, cells := 0, slots := 0, locals := 25 }
theorem hd_C_isLayoutRight : y_C_isLayoutRight.cls = R_C ∧ y_C_isLayoutRight.cls ≠ "java/lang/invoke/MethodHandle" ∧ y_C_isLayoutRight.cls ≠ "java/lang/invoke/VarHandle" ∧ (parseMethodDescriptor y_C_isLayoutRight.desc).map (fun d => d.parameters.length) = some 0 := by decide +kernel
set_option maxHeartbeats 4000000 in
set_option maxRecDepth 100000 in
theorem c_C_isLayoutRight (l : Launch) (D : va_G) (h : Nat → Nat) (cA : ClassId) (n tb : Nat) (A : Nat → Prop) (hn : 12 ≤ n) (hn2 : n ≤ 24) (d : Nat → BitVec 8) (j : Nat) (hj : j < 2) : Met l y_C_isLayoutRight w_C_isLayoutRight rm_C_isLayoutRight (va_Pc [.ref (h (2 + j))] (cB D h cA n tb A d)) (va_Qi (fun r v => r = bI (laR n j d) ∧ v = d) (cB D h cA n tb A) A) 0 0 A := by
  refine g_ofW (cc := b_C_isLayoutRight) (maxL := 1) (ret := (some .boolean)) (by decide) rfl (Nat.le_of_ble_eq_true rfl) ?_
  intro p e s m below meth c ls hx hb hml hr hlk hown hts hnm hB hl
  have hown : s.vm.findClass R_C = some m.cls := hown
  have hP := hB.1
  have hK := hB.2.1
  have hS : va_S A s.heap s.heap [] := va_S.rf
  have hl : lv_has ls 1 [(0, .ref (h (2 + j)))] := hl
  have hHd := cHd_le hn hj
  have hAr := cAr_le hn hj
  refine lv_aload_n hx hb d_C_isLayoutRight_0 rfl (lv_at hl 0 rfl) ?_
  refine va_get (D := D) (ci := 2) (v := .ref (h 1)) (C := R_C) (T := F_C) (N := 8) hx hb hts (fun w h => .tail _ (fi_C w h)) hown hK hP (2 + j) (cW_C hj) rfl 1 (by decide) (hts _ (.tail _ m_62)) (fun _ h9 => h9) rfl d_C_isLayoutRight_1 ?_
  refine lv_aload_n hx hb d_C_isLayoutRight_4 rfl (lv_at hl 0 rfl) ?_
  refine va_get (D := D) (ci := 2) (v := .int (nI (cHd n j))) (C := R_C) (T := F_C) (N := 8) hx hb hts (fun w h => .tail _ (fi_C w h)) hown hK hP (2 + j) (cW_C hj) rfl 6 (by decide) (hts _ (.tail _ m_67)) (fun _ h9 => h9) rfl d_C_isLayoutRight_5 ?_
  refine lv_bipush (v := nI 32) hx hb d_C_isLayoutRight_8 rfl ?_
  refine lv_iaddN hx hb d_C_isLayoutRight_10 ?_
  refine lv_bipush (v := nI 8) hx hb d_C_isLayoutRight_11 rfl ?_
  refine g_callVl (As := [.int (nI ((cHd n j) + 32)), .int (nI (8))]) (rest := []) ⟨hx, hb, hml, hown, hts⟩ (C := R_B) (index := 41) (c_B_number l D h cA n tb A hn hn2 (d) ((cHd n j) + 32) (8) (by omega)) (cwV 2 hts (gd_V m_169 m_170 m_171 m_31 m_172) rfl rfl rfl hd_B_number ⟨Nat.le_of_ble_eq_true rfl, Nat.le_of_ble_eq_true rfl⟩) cW_w cX_x hB hP hS (ci := 1) rfl (1) rfl rfl hl.1 rfl (Nat.le_of_ble_eq_true rfl) d_C_isLayoutRight_13 ⟨Nat.zero_le _, Nat.zero_le _⟩ (fun r_ v_ H locs hw hP hS => ?_)
  obtain ⟨hw1, hw2⟩ := hw; have hw1 := hw1.symm; have hw2 := hw2.symm; subst hw1; subst hw2
  refine lv_aload_n hx hb d_C_isLayoutRight_16 rfl (lv_at hl 0 rfl) ?_
  refine va_get (D := D) (ci := 2) (v := .int (nI (cOth n j))) (C := R_C) (T := F_C) (N := 8) hx hb hts (fun w h => .tail _ (fi_C w h)) hown hK hP (2 + j) (cW_C hj) rfl 3 (by decide) (hts _ (.tail _ m_64)) (fun _ h9 => h9) rfl d_C_isLayoutRight_17 ?_
  refine lv_i2l hx hb d_C_isLayoutRight_20 rfl ?_
  refine W.lcmp hx hb d_C_isLayoutRight_21 ?_
  refine lv_if_ne (tgt := 146) hx hb d_C_isLayoutRight_22 (by decide) (fun c_22 => ?_) (fun c_22 => ?_)
  · have c_22 := fun z => c_22 ((lg_cmp_eq _ _).mpr z)
    refine lv_iconst (v := nI 0) hx hb d_C_isLayoutRight_146 rfl ?_
    exact g_zret (v := (nI (0))) hx hb hr (rfl) hlk cW_w cX_x hB hP hS (⟨(bI_f (fun z => c_22 z.1)).symm, rfl⟩) d_C_isLayoutRight_147
  · have c_22 := (lg_cmp_eq _ _).mp c_22
    refine lv_aload_n hx hb d_C_isLayoutRight_25 rfl (lv_at hl 0 rfl) ?_
    refine va_get (D := D) (ci := 2) (v := .ref (h 1)) (C := R_C) (T := F_C) (N := 8) hx hb hts (fun w h => .tail _ (fi_C w h)) hown hK hP (2 + j) (cW_C hj) rfl 1 (by decide) (hts _ (.tail _ m_62)) (fun _ h9 => h9) rfl d_C_isLayoutRight_26 ?_
    refine lv_aload_n hx hb d_C_isLayoutRight_29 rfl (lv_at hl 0 rfl) ?_
    refine va_get (D := D) (ci := 2) (v := .int (nI (cHd n j))) (C := R_C) (T := F_C) (N := 8) hx hb hts (fun w h => .tail _ (fi_C w h)) hown hK hP (2 + j) (cW_C hj) rfl 6 (by decide) (hts _ (.tail _ m_67)) (fun _ h9 => h9) rfl d_C_isLayoutRight_30 ?_
    refine lv_bipush (v := nI 40) hx hb d_C_isLayoutRight_33 rfl ?_
    refine lv_iaddN hx hb d_C_isLayoutRight_35 ?_
    refine lv_bipush (v := nI 8) hx hb d_C_isLayoutRight_36 rfl ?_
    refine g_callVl (As := [.int (nI ((cHd n j) + 40)), .int (nI (8))]) (rest := []) ⟨hx, hb, hml, hown, hts⟩ (C := R_B) (index := 41) (c_B_number l D h cA n tb A hn hn2 (d) ((cHd n j) + 40) (8) (by omega)) (cwV 2 hts (gd_V m_169 m_170 m_171 m_31 m_172) rfl rfl rfl hd_B_number ⟨Nat.le_of_ble_eq_true rfl, Nat.le_of_ble_eq_true rfl⟩) cW_w cX_x hB hP hS (ci := 1) rfl (1) rfl rfl hl.1 rfl (Nat.le_of_ble_eq_true rfl) d_C_isLayoutRight_38 ⟨Nat.zero_le _, Nat.zero_le _⟩ (fun r_ v_ H locs hw hP hS => ?_)
    obtain ⟨hw1, hw2⟩ := hw; have hw1 := hw1.symm; have hw2 := hw2.symm; subst hw1; subst hw2
    refine lv_ldc2 (v := 4) hx hb hown (hts _ (.tail _ m_187)) d_C_isLayoutRight_41 ?_
    refine W.lcmp hx hb d_C_isLayoutRight_44 ?_
    refine lv_if_ne (tgt := 146) hx hb d_C_isLayoutRight_45 (by decide) (fun c_45 => ?_) (fun c_45 => ?_)
    · have c_45 := fun z => c_45 ((lg_cmp_eq _ _).mpr z)
      refine lv_iconst (v := nI 0) hx hb d_C_isLayoutRight_146 rfl ?_
      exact g_zret (v := (nI (0))) hx hb hr (rfl) hlk cW_w cX_x hB hP hS (⟨(bI_f (fun z => c_45 z.2.1)).symm, rfl⟩) d_C_isLayoutRight_147
    · have c_45 := (lg_cmp_eq _ _).mp c_45
      refine lv_aload_n hx hb d_C_isLayoutRight_48 rfl (lv_at hl 0 rfl) ?_
      refine va_get (D := D) (ci := 2) (v := .ref (h 1)) (C := R_C) (T := F_C) (N := 8) hx hb hts (fun w h => .tail _ (fi_C w h)) hown hK hP (2 + j) (cW_C hj) rfl 1 (by decide) (hts _ (.tail _ m_62)) (fun _ h9 => h9) rfl d_C_isLayoutRight_49 ?_
      refine lv_aload_n hx hb d_C_isLayoutRight_52 rfl (lv_at hl 0 rfl) ?_
      refine va_get (D := D) (ci := 2) (v := .int (nI (cHd n j))) (C := R_C) (T := F_C) (N := 8) hx hb hts (fun w h => .tail _ (fi_C w h)) hown hK hP (2 + j) (cW_C hj) rfl 6 (by decide) (hts _ (.tail _ m_67)) (fun _ h9 => h9) rfl d_C_isLayoutRight_53 ?_
      refine lv_bipush (v := nI 48) hx hb d_C_isLayoutRight_56 rfl ?_
      refine lv_iaddN hx hb d_C_isLayoutRight_58 ?_
      refine lv_bipush (v := nI 8) hx hb d_C_isLayoutRight_59 rfl ?_
      refine g_callVl (As := [.int (nI ((cHd n j) + 48)), .int (nI (8))]) (rest := []) ⟨hx, hb, hml, hown, hts⟩ (C := R_B) (index := 41) (c_B_number l D h cA n tb A hn hn2 (d) ((cHd n j) + 48) (8) (by omega)) (cwV 2 hts (gd_V m_169 m_170 m_171 m_31 m_172) rfl rfl rfl hd_B_number ⟨Nat.le_of_ble_eq_true rfl, Nat.le_of_ble_eq_true rfl⟩) cW_w cX_x hB hP hS (ci := 1) rfl (1) rfl rfl hl.1 rfl (Nat.le_of_ble_eq_true rfl) d_C_isLayoutRight_61 ⟨Nat.zero_le _, Nat.zero_le _⟩ (fun r_ v_ H locs hw hP hS => ?_)
      obtain ⟨hw1, hw2⟩ := hw; have hw1 := hw1.symm; have hw2 := hw2.symm; subst hw1; subst hw2
      refine lv_aload_n hx hb d_C_isLayoutRight_64 rfl (lv_at hl 0 rfl) ?_
      refine va_get (D := D) (ci := 2) (v := .int (nI (n - 4))) (C := R_C) (T := F_C) (N := 8) hx hb hts (fun w h => .tail _ (fi_C w h)) hown hK hP (2 + j) (cW_C hj) rfl 5 (by decide) (hts _ (.tail _ m_66)) (fun _ h9 => h9) rfl d_C_isLayoutRight_65 ?_
      refine lv_i2l hx hb d_C_isLayoutRight_68 rfl ?_
      refine W.lcmp hx hb d_C_isLayoutRight_69 ?_
      refine lv_if_ne (tgt := 146) hx hb d_C_isLayoutRight_70 (by decide) (fun c_70 => ?_) (fun c_70 => ?_)
      · have c_70 := fun z => c_70 ((lg_cmp_eq _ _).mpr z)
        refine lv_iconst (v := nI 0) hx hb d_C_isLayoutRight_146 rfl ?_
        exact g_zret (v := (nI (0))) hx hb hr (rfl) hlk cW_w cX_x hB hP hS (⟨(bI_f (fun z => c_70 z.2.2.1)).symm, rfl⟩) d_C_isLayoutRight_147
      · have c_70 := (lg_cmp_eq _ _).mp c_70
        refine lv_aload_n hx hb d_C_isLayoutRight_73 rfl (lv_at hl 0 rfl) ?_
        refine va_get (D := D) (ci := 2) (v := .ref (h 1)) (C := R_C) (T := F_C) (N := 8) hx hb hts (fun w h => .tail _ (fi_C w h)) hown hK hP (2 + j) (cW_C hj) rfl 1 (by decide) (hts _ (.tail _ m_62)) (fun _ h9 => h9) rfl d_C_isLayoutRight_74 ?_
        refine lv_aload_n hx hb d_C_isLayoutRight_77 rfl (lv_at hl 0 rfl) ?_
        refine va_get (D := D) (ci := 2) (v := .int (nI (cHd n j))) (C := R_C) (T := F_C) (N := 8) hx hb hts (fun w h => .tail _ (fi_C w h)) hown hK hP (2 + j) (cW_C hj) rfl 6 (by decide) (hts _ (.tail _ m_67)) (fun _ h9 => h9) rfl d_C_isLayoutRight_78 ?_
        refine lv_bipush (v := nI 72) hx hb d_C_isLayoutRight_81 rfl ?_
        refine lv_iaddN hx hb d_C_isLayoutRight_83 ?_
        refine lv_bipush (v := nI 8) hx hb d_C_isLayoutRight_84 rfl ?_
        refine g_callVl (As := [.int (nI ((cHd n j) + 72)), .int (nI (8))]) (rest := []) ⟨hx, hb, hml, hown, hts⟩ (C := R_B) (index := 41) (c_B_number l D h cA n tb A hn hn2 (d) ((cHd n j) + 72) (8) (by omega)) (cwV 2 hts (gd_V m_169 m_170 m_171 m_31 m_172) rfl rfl rfl hd_B_number ⟨Nat.le_of_ble_eq_true rfl, Nat.le_of_ble_eq_true rfl⟩) cW_w cX_x hB hP hS (ci := 1) rfl (1) rfl rfl hl.1 rfl (Nat.le_of_ble_eq_true rfl) d_C_isLayoutRight_86 ⟨Nat.zero_le _, Nat.zero_le _⟩ (fun r_ v_ H locs hw hP hS => ?_)
        obtain ⟨hw1, hw2⟩ := hw; have hw1 := hw1.symm; have hw2 := hw2.symm; subst hw1; subst hw2
        refine lv_aload_n hx hb d_C_isLayoutRight_89 rfl (lv_at hl 0 rfl) ?_
        refine va_get (D := D) (ci := 2) (v := .int (nI (cArr n j))) (C := R_C) (T := F_C) (N := 8) hx hb hts (fun w h => .tail _ (fi_C w h)) hown hK hP (2 + j) (cW_C hj) rfl 4 (by decide) (hts _ (.tail _ m_65)) (fun _ h9 => h9) rfl d_C_isLayoutRight_90 ?_
        refine lv_i2l hx hb d_C_isLayoutRight_93 rfl ?_
        refine W.lcmp hx hb d_C_isLayoutRight_94 ?_
        refine lv_if_ne (tgt := 146) hx hb d_C_isLayoutRight_95 (by decide) (fun c_95 => ?_) (fun c_95 => ?_)
        · have c_95 := fun z => c_95 ((lg_cmp_eq _ _).mpr z)
          refine lv_iconst (v := nI 0) hx hb d_C_isLayoutRight_146 rfl ?_
          exact g_zret (v := (nI (0))) hx hb hr (rfl) hlk cW_w cX_x hB hP hS (⟨(bI_f (fun z => c_95 z.2.2.2.1)).symm, rfl⟩) d_C_isLayoutRight_147
        · have c_95 := (lg_cmp_eq _ _).mp c_95
          refine lv_aload_n hx hb d_C_isLayoutRight_98 rfl (lv_at hl 0 rfl) ?_
          refine va_get (D := D) (ci := 2) (v := .ref (h 1)) (C := R_C) (T := F_C) (N := 8) hx hb hts (fun w h => .tail _ (fi_C w h)) hown hK hP (2 + j) (cW_C hj) rfl 1 (by decide) (hts _ (.tail _ m_62)) (fun _ h9 => h9) rfl d_C_isLayoutRight_99 ?_
          refine lv_aload_n hx hb d_C_isLayoutRight_102 rfl (lv_at hl 0 rfl) ?_
          refine va_get (D := D) (ci := 2) (v := .int (nI (cHd n j))) (C := R_C) (T := F_C) (N := 8) hx hb hts (fun w h => .tail _ (fi_C w h)) hown hK hP (2 + j) (cW_C hj) rfl 6 (by decide) (hts _ (.tail _ m_67)) (fun _ h9 => h9) rfl d_C_isLayoutRight_103 ?_
          refine lv_bipush (v := nI 80) hx hb d_C_isLayoutRight_106 rfl ?_
          refine lv_iaddN hx hb d_C_isLayoutRight_108 ?_
          refine lv_iconst (v := nI 4) hx hb d_C_isLayoutRight_109 rfl ?_
          refine g_callVl (As := [.int (nI ((cHd n j) + 80)), .int (nI (4))]) (rest := []) ⟨hx, hb, hml, hown, hts⟩ (C := R_B) (index := 41) (c_B_number l D h cA n tb A hn hn2 (d) ((cHd n j) + 80) (4) (by omega)) (cwV 2 hts (gd_V m_169 m_170 m_171 m_31 m_172) rfl rfl rfl hd_B_number ⟨Nat.le_of_ble_eq_true rfl, Nat.le_of_ble_eq_true rfl⟩) cW_w cX_x hB hP hS (ci := 1) rfl (1) rfl rfl hl.1 rfl (Nat.le_of_ble_eq_true rfl) d_C_isLayoutRight_110 ⟨Nat.zero_le _, Nat.zero_le _⟩ (fun r_ v_ H locs hw hP hS => ?_)
          obtain ⟨hw1, hw2⟩ := hw; have hw1 := hw1.symm; have hw2 := hw2.symm; subst hw1; subst hw2
          refine lv_ldc2 (v := 8) hx hb hown (hts _ (.tail _ m_188)) d_C_isLayoutRight_113 ?_
          refine W.lcmp hx hb d_C_isLayoutRight_116 ?_
          refine lv_if_ne (tgt := 146) hx hb d_C_isLayoutRight_117 (by decide) (fun c_117 => ?_) (fun c_117 => ?_)
          · have c_117 := fun z => c_117 ((lg_cmp_eq _ _).mpr z)
            refine lv_iconst (v := nI 0) hx hb d_C_isLayoutRight_146 rfl ?_
            exact g_zret (v := (nI (0))) hx hb hr (rfl) hlk cW_w cX_x hB hP hS (⟨(bI_f (fun z => c_117 z.2.2.2.2.1)).symm, rfl⟩) d_C_isLayoutRight_147
          · have c_117 := (lg_cmp_eq _ _).mp c_117
            refine lv_aload_n hx hb d_C_isLayoutRight_120 rfl (lv_at hl 0 rfl) ?_
            refine va_get (D := D) (ci := 2) (v := .ref (h 1)) (C := R_C) (T := F_C) (N := 8) hx hb hts (fun w h => .tail _ (fi_C w h)) hown hK hP (2 + j) (cW_C hj) rfl 1 (by decide) (hts _ (.tail _ m_62)) (fun _ h9 => h9) rfl d_C_isLayoutRight_121 ?_
            refine lv_aload_n hx hb d_C_isLayoutRight_124 rfl (lv_at hl 0 rfl) ?_
            refine va_get (D := D) (ci := 2) (v := .int (nI (cHd n j))) (C := R_C) (T := F_C) (N := 8) hx hb hts (fun w h => .tail _ (fi_C w h)) hown hK hP (2 + j) (cW_C hj) rfl 6 (by decide) (hts _ (.tail _ m_67)) (fun _ h9 => h9) rfl d_C_isLayoutRight_125 ?_
            refine lv_bipush (v := nI 84) hx hb d_C_isLayoutRight_128 rfl ?_
            refine lv_iaddN hx hb d_C_isLayoutRight_130 ?_
            refine lv_iconst (v := nI 4) hx hb d_C_isLayoutRight_131 rfl ?_
            refine g_callVl (As := [.int (nI ((cHd n j) + 84)), .int (nI (4))]) (rest := []) ⟨hx, hb, hml, hown, hts⟩ (C := R_B) (index := 41) (c_B_number l D h cA n tb A hn hn2 (d) ((cHd n j) + 84) (4) (by omega)) (cwV 2 hts (gd_V m_169 m_170 m_171 m_31 m_172) rfl rfl rfl hd_B_number ⟨Nat.le_of_ble_eq_true rfl, Nat.le_of_ble_eq_true rfl⟩) cW_w cX_x hB hP hS (ci := 1) rfl (1) rfl rfl hl.1 rfl (Nat.le_of_ble_eq_true rfl) d_C_isLayoutRight_132 ⟨Nat.zero_le _, Nat.zero_le _⟩ (fun r_ v_ H locs hw hP hS => ?_)
            obtain ⟨hw1, hw2⟩ := hw; have hw1 := hw1.symm; have hw2 := hw2.symm; subst hw1; subst hw2
            refine lv_ldc2 (v := 128) hx hb hown (hts _ (.tail _ m_189)) d_C_isLayoutRight_135 ?_
            refine W.lcmp hx hb d_C_isLayoutRight_138 ?_
            refine lv_if_ne (tgt := 146) hx hb d_C_isLayoutRight_139 (by decide) (fun c_139 => ?_) (fun c_139 => ?_)
            · have c_139 := fun z => c_139 ((lg_cmp_eq _ _).mpr z)
              refine lv_iconst (v := nI 0) hx hb d_C_isLayoutRight_146 rfl ?_
              exact g_zret (v := (nI (0))) hx hb hr (rfl) hlk cW_w cX_x hB hP hS (⟨(bI_f (fun z => c_139 z.2.2.2.2.2)).symm, rfl⟩) d_C_isLayoutRight_147
            · have c_139 := (lg_cmp_eq _ _).mp c_139
              refine lv_iconst (v := nI 1) hx hb d_C_isLayoutRight_142 rfl ?_
              refine lv_goto (tgt := 147) hx hb d_C_isLayoutRight_143 (by decide) ?_
              exact g_zret (v := (nI (1))) hx hb hr (rfl) hlk cW_w cX_x hB hP hS (⟨(bI_t ⟨c_22, c_45, c_70, c_95, c_117, c_139⟩).symm, rfl⟩) d_C_isLayoutRight_147
abbrev w_C_isTaken : List Cond := .code y_C_isTaken b_C_isTaken 7 (some .boolean) :: ALL
abbrev rm_C_isTaken : Room := { frames := 2, cells := 0, slots := 0, locals := 47 }
theorem hd_C_isTaken : y_C_isTaken.cls = R_C ∧ y_C_isTaken.cls ≠ "java/lang/invoke/MethodHandle" ∧ y_C_isTaken.cls ≠ "java/lang/invoke/VarHandle" ∧ (parseMethodDescriptor y_C_isTaken.desc).map (fun d => d.parameters.length) = some 3 := by decide +kernel
set_option maxHeartbeats 4000000 in
set_option maxRecDepth 100000 in
theorem c_C_isTaken (l : Launch) (D : va_G) (h : Nat → Nat) (cA : ClassId) (n tb : Nat) (A : Nat → Prop) (hn : 12 ≤ n) (hn2 : n ≤ 24) (d : Nat → BitVec 8) (j : Nat) (hj : j < 2) (x y : Int64) (z0 : Int32) : Met l y_C_isTaken w_C_isTaken rm_C_isTaken (va_Pc [.ref (h (2 + j)), .long (x), .long (y), .int (z0)] (cB D h cA n tb A d)) (va_Qi (fun r v => r = bI (tak d (cAr n j) x y z0) ∧ v = d) (cB D h cA n tb A) A) 0 0 A := by
  refine g_ofW (cc := b_C_isTaken) (maxL := 7) (ret := (some .boolean)) (by decide) rfl (Nat.le_of_ble_eq_true rfl) ?_
  intro p e s m below meth c ls hx hb hml hr hlk hown hts hnm hB hl
  have hown : s.vm.findClass R_C = some m.cls := hown
  have hP := hB.1
  have hK := hB.2.1
  have hS : va_S A s.heap s.heap [] := va_S.rf
  have hl : lv_has ls 7 [(0, .ref (h (2 + j))), (1, .long (x)), (3, .long (y)), (5, .int (z0))] := hl
  have hHd := cHd_le hn hj
  have hAr := cAr_le hn hj
  refine lv_iconst (v := nI 0) hx hb d_C_isTaken_0 rfl ?_
  refine lv_istore (lv' := [(6, .int (nI (0))), (0, .ref (h (2 + j))), (1, .long (x)), (3, .long (y)), (5, .int (z0))]) hx hb d_C_isTaken_1 hl (by decide) rfl (fun ls hl => ?_)
  have lp : ∀ (q : Nat) (i : Nat) (H : Heap) (locs : List Loc) (ls : Array Slot), (i ≤ 8) → (8 + 1 ≤ i + q) → (∀ k, k < i → ¬ tkQ d (cAr n j) x y z0 k) → va_P D classes (cW h cA n (d)) H → va_S A s.heap H locs → lv_has ls 7 [(6, .int (nI (i))), (0, .ref (h (2 + j))), (1, .long (x)), (3, .long (y)), (5, .int (z0))] → W p l e rm_C_isTaken s m ([.ref (h (2 + j)), .long (x), .long (y), .int (z0)] : List Value).toArray below meth c H locs 0 0 (MQ below (va_Qi (fun r v => r = bI (tak d (cAr n j) x y z0) ∧ v = d) (cB D h cA n tb A) A) ([.ref (h (2 + j)), .long (x), .long (y), .int (z0)] : List Value).toArray s 0 0 A) (F0 m 3 ls []) := by
    intro q
    induction q with
    | zero =>
      intro i H locs ls hi hq hz hP hS hl
      exact absurd hq (by omega)
    | succ q ih =>
      intro i H locs ls hi hq hz hP hS hl
      refine lv_iload hx hb d_C_isTaken_3 (lv_at hl 0 rfl) ?_
      refine lv_bipush (v := nI 8) hx hb d_C_isTaken_5 rfl ?_
      refine lv_icmp_ge (tgt := 60) hx hb d_C_isTaken_7 (by decide) (fun c_7 => ?_) (fun c_7 => ?_)
      · have hik : i = 8 := ge_t hi (by omega) c_7
        refine lv_iconst (v := nI 0) hx hb d_C_isTaken_60 rfl ?_
        exact g_zret (v := (nI (0))) hx hb hr (rfl) hlk cW_w cX_x hB hP hS (⟨(bI_f (nex (by rw [← hik]; exact hz))).symm, rfl⟩) d_C_isTaken_61
      · have hik : i < 8 := ge_f (by omega) (by omega) c_7
        refine lv_iload hx hb d_C_isTaken_10 (lv_at hl 0 rfl) ?_
        refine lv_iload hx hb d_C_isTaken_12 (lv_at hl 4 rfl) ?_
        refine lv_icmp_eq (tgt := 54) hx hb d_C_isTaken_14 (by decide) (fun c_14 => ?_) (fun c_14 => ?_)
        · refine lv_iinc (v := (nI (i + 1))) (lv' := [(6, .int (nI (i + 1))), (0, .ref (h (2 + j))), (1, .long (x)), (3, .long (y)), (5, .int (z0))]) hx hb d_C_isTaken_54 hl (k := 0) rfl (nI_add _ _) (by decide) rfl (fun ls hl => ?_)
          refine lv_goto (tgt := 3) hx hb d_C_isTaken_57 (by decide) ?_
          exact ih (i + 1) _ _ _ (by omega) (by omega) (lt_a hz (fun w => w.1 c_14)) hP hS (lv_sub hl [0, 1, 2, 3, 4] rfl)
        · refine lv_aload_n hx hb d_C_isTaken_17 rfl (lv_at hl 1 rfl) ?_
          refine lv_iload hx hb d_C_isTaken_18 (lv_at hl 0 rfl) ?_
          refine g_callVi (As := [.int (nI (i))]) (rest := []) ⟨hx, hb, hml, hown, hts⟩ (C := R_C) (index := 79) (c_C_isFree l D h cA n tb A hn hn2 (d) (j) hj (i) (by omega)) (cwV 1 hts (gd_V m_265 m_266 m_267 m_32 m_268) rfl rfl rfl hd_C_isFree ⟨Nat.le_of_ble_eq_true rfl, Nat.le_of_ble_eq_true rfl⟩) cW_w cX_x hB hP hS (ci := 2) rfl ((2 + j)) (cW_C hj) rfl hl.1 rfl (Nat.le_of_ble_eq_true rfl) d_C_isTaken_20 ⟨Nat.zero_le _, Nat.zero_le _⟩ (fun r_ v_ H locs hw hP hS => ?_)
          obtain ⟨hw1, hw2⟩ := hw; have hw1 := hw1.symm; have hw2 := hw2.symm; subst hw1; subst hw2
          refine lv_if_ne (tgt := 54) hx hb d_C_isTaken_23 (by decide) (fun c_23 => ?_) (fun c_23 => ?_)
          · have c_23 := bI_1 c_23
            refine lv_iinc (v := (nI (i + 1))) (lv' := [(6, .int (nI (i + 1))), (0, .ref (h (2 + j))), (1, .long (x)), (3, .long (y)), (5, .int (z0))]) hx hb d_C_isTaken_54 hl (k := 0) rfl (nI_add _ _) (by decide) rfl (fun ls hl => ?_)
            refine lv_goto (tgt := 3) hx hb d_C_isTaken_57 (by decide) ?_
            exact ih (i + 1) _ _ _ (by omega) (by omega) (lt_a hz (fun w => w.2.1 c_23)) hP hS (lv_sub hl [0, 1, 2, 3, 4] rfl)
          · have c_23 := bI_0.mp c_23
            refine lv_aload_n hx hb d_C_isTaken_26 rfl (lv_at hl 1 rfl) ?_
            refine lv_iload hx hb d_C_isTaken_27 (lv_at hl 0 rfl) ?_
            refine lv_bipush (v := nI 32) hx hb d_C_isTaken_29 rfl ?_
            refine g_callVl (As := [.int (nI (i)), .int (nI (32))]) (rest := []) ⟨hx, hb, hml, hown, hts⟩ (C := R_C) (index := 76) (c_C_getLong l D h cA n tb A hn hn2 (d) (j) hj (i) (32) (by omega) (by omega)) (cwV 2 hts (gd_V m_257 m_258 m_259 m_32 m_260) rfl rfl rfl hd_C_getLong ⟨Nat.le_of_ble_eq_true rfl, Nat.le_of_ble_eq_true rfl⟩) cW_w cX_x hB hP hS (ci := 2) rfl ((2 + j)) (cW_C hj) rfl hl.1 rfl (Nat.le_of_ble_eq_true rfl) d_C_isTaken_31 ⟨Nat.zero_le _, Nat.zero_le _⟩ (fun r_ v_ H locs hw hP hS => ?_)
            obtain ⟨hw1, hw2⟩ := hw; have hw1 := hw1.symm; have hw2 := hw2.symm; subst hw1; subst hw2
            refine lv_lload_n hx hb d_C_isTaken_34 rfl (lv_at hl 3 rfl) ?_
            refine W.lcmp hx hb d_C_isTaken_35 ?_
            refine lv_if_gt (tgt := 54) hx hb d_C_isTaken_36 (by decide) (fun c_36 => ?_) (fun c_36 => ?_)
            · have c_36 := (lg_cmp_gt _ _).mp c_36
              refine lv_iinc (v := (nI (i + 1))) (lv' := [(6, .int (nI (i + 1))), (0, .ref (h (2 + j))), (1, .long (x)), (3, .long (y)), (5, .int (z0))]) hx hb d_C_isTaken_54 hl (k := 0) rfl (nI_add _ _) (by decide) rfl (fun ls hl => ?_)
              refine lv_goto (tgt := 3) hx hb d_C_isTaken_57 (by decide) ?_
              exact ih (i + 1) _ _ _ (by omega) (by omega) (lt_a hz (fun w => w.2.2.1 c_36)) hP hS (lv_sub hl [0, 1, 2, 3, 4] rfl)
            · have c_36 := fun z => c_36 ((lg_cmp_gt _ _).mpr z)
              refine lv_aload_n hx hb d_C_isTaken_39 rfl (lv_at hl 1 rfl) ?_
              refine lv_iload hx hb d_C_isTaken_40 (lv_at hl 0 rfl) ?_
              refine lv_bipush (v := nI 40) hx hb d_C_isTaken_42 rfl ?_
              refine g_callVl (As := [.int (nI (i)), .int (nI (40))]) (rest := []) ⟨hx, hb, hml, hown, hts⟩ (C := R_C) (index := 76) (c_C_getLong l D h cA n tb A hn hn2 (d) (j) hj (i) (40) (by omega) (by omega)) (cwV 2 hts (gd_V m_257 m_258 m_259 m_32 m_260) rfl rfl rfl hd_C_getLong ⟨Nat.le_of_ble_eq_true rfl, Nat.le_of_ble_eq_true rfl⟩) cW_w cX_x hB hP hS (ci := 2) rfl ((2 + j)) (cW_C hj) rfl hl.1 rfl (Nat.le_of_ble_eq_true rfl) d_C_isTaken_44 ⟨Nat.zero_le _, Nat.zero_le _⟩ (fun r_ v_ H locs hw hP hS => ?_)
              obtain ⟨hw1, hw2⟩ := hw; have hw1 := hw1.symm; have hw2 := hw2.symm; subst hw1; subst hw2
              refine lv_lload_n hx hb d_C_isTaken_47 rfl (lv_at hl 2 rfl) ?_
              refine W.lcmp hx hb d_C_isTaken_48 ?_
              refine lv_if_lt (tgt := 54) hx hb d_C_isTaken_49 (by decide) (fun c_49 => ?_) (fun c_49 => ?_)
              · have c_49 := (lg_cmp_lt _ _).mp c_49
                refine lv_iinc (v := (nI (i + 1))) (lv' := [(6, .int (nI (i + 1))), (0, .ref (h (2 + j))), (1, .long (x)), (3, .long (y)), (5, .int (z0))]) hx hb d_C_isTaken_54 hl (k := 0) rfl (nI_add _ _) (by decide) rfl (fun ls hl => ?_)
                refine lv_goto (tgt := 3) hx hb d_C_isTaken_57 (by decide) ?_
                exact ih (i + 1) _ _ _ (by omega) (by omega) (lt_a hz (fun w => w.2.2.2 c_49)) hP hS (lv_sub hl [0, 1, 2, 3, 4] rfl)
              · have c_49 := fun z => c_49 ((lg_cmp_lt _ _).mpr z)
                refine lv_iconst (v := nI 1) hx hb d_C_isTaken_52 rfl ?_
                exact g_zret (v := (nI (1))) hx hb hr (rfl) hlk cW_w cX_x hB hP hS (⟨(bI_t ⟨i, hik, c_14, c_23, c_36, c_49⟩).symm, rfl⟩) d_C_isTaken_53
  exact lp (8 + 1) 0 _ _ _ (Nat.zero_le _) (by omega) lt_0 hP hS (lv_sub hl [0, 1, 2, 3, 4] rfl)
abbrev w_C_isMarkUsed : List Cond := .code y_C_isMarkUsed b_C_isMarkUsed 6 (some .boolean) :: ALL
abbrev rm_C_isMarkUsed : Room := { frames := 2, cells := 0, slots := 0, locals := 47 }
theorem hd_C_isMarkUsed : y_C_isMarkUsed.cls = R_C ∧ y_C_isMarkUsed.cls ≠ "java/lang/invoke/MethodHandle" ∧ y_C_isMarkUsed.cls ≠ "java/lang/invoke/VarHandle" ∧ (parseMethodDescriptor y_C_isMarkUsed.desc).map (fun d => d.parameters.length) = some 2 := by decide +kernel
set_option maxHeartbeats 4000000 in
set_option maxRecDepth 100000 in
theorem c_C_isMarkUsed (l : Launch) (D : va_G) (h : Nat → Nat) (cA : ClassId) (n tb : Nat) (A : Nat → Prop) (hn : 12 ≤ n) (hn2 : n ≤ 24) (d : Nat → BitVec 8) (j : Nat) (hj : j < 2) (x y : Int64) : Met l y_C_isMarkUsed w_C_isMarkUsed rm_C_isMarkUsed (va_Pc [.ref (h (2 + j)), .long (x), .long (y)] (cB D h cA n tb A d)) (va_Qi (fun r v => r = bI (mkU d (cAr n j) x y) ∧ v = d) (cB D h cA n tb A) A) 0 0 A := by
  refine g_ofW (cc := b_C_isMarkUsed) (maxL := 6) (ret := (some .boolean)) (by decide) rfl (Nat.le_of_ble_eq_true rfl) ?_
  intro p e s m below meth c ls hx hb hml hr hlk hown hts hnm hB hl
  have hown : s.vm.findClass R_C = some m.cls := hown
  have hP := hB.1
  have hK := hB.2.1
  have hS : va_S A s.heap s.heap [] := va_S.rf
  have hl : lv_has ls 6 [(0, .ref (h (2 + j))), (1, .long (x)), (3, .long (y))] := hl
  have hHd := cHd_le hn hj
  have hAr := cAr_le hn hj
  refine lv_iconst (v := nI 0) hx hb d_C_isMarkUsed_0 rfl ?_
  refine lv_istore (lv' := [(5, .int (nI (0))), (0, .ref (h (2 + j))), (1, .long (x)), (3, .long (y))]) hx hb d_C_isMarkUsed_1 hl (by decide) rfl (fun ls hl => ?_)
  have lp : ∀ (q : Nat) (i : Nat) (H : Heap) (locs : List Loc) (ls : Array Slot), (i ≤ 8) → (8 + 1 ≤ i + q) → (∀ k, k < i → ¬ mkQ d (cAr n j) x y k) → va_P D classes (cW h cA n (d)) H → va_S A s.heap H locs → lv_has ls 6 [(5, .int (nI (i))), (0, .ref (h (2 + j))), (1, .long (x)), (3, .long (y))] → W p l e rm_C_isMarkUsed s m ([.ref (h (2 + j)), .long (x), .long (y)] : List Value).toArray below meth c H locs 0 0 (MQ below (va_Qi (fun r v => r = bI (mkU d (cAr n j) x y) ∧ v = d) (cB D h cA n tb A) A) ([.ref (h (2 + j)), .long (x), .long (y)] : List Value).toArray s 0 0 A) (F0 m 3 ls []) := by
    intro q
    induction q with
    | zero =>
      intro i H locs ls hi hq hz hP hS hl
      exact absurd hq (by omega)
    | succ q ih =>
      intro i H locs ls hi hq hz hP hS hl
      refine lv_iload hx hb d_C_isMarkUsed_3 (lv_at hl 0 rfl) ?_
      refine lv_bipush (v := nI 8) hx hb d_C_isMarkUsed_5 rfl ?_
      refine lv_icmp_ge (tgt := 53) hx hb d_C_isMarkUsed_7 (by decide) (fun c_7 => ?_) (fun c_7 => ?_)
      · have hik : i = 8 := ge_t hi (by omega) c_7
        refine lv_iconst (v := nI 0) hx hb d_C_isMarkUsed_53 rfl ?_
        exact g_zret (v := (nI (0))) hx hb hr (rfl) hlk cW_w cX_x hB hP hS (⟨(bI_f (nex (by rw [← hik]; exact hz))).symm, rfl⟩) d_C_isMarkUsed_54
      · have hik : i < 8 := ge_f (by omega) (by omega) c_7
        refine lv_aload_n hx hb d_C_isMarkUsed_10 rfl (lv_at hl 1 rfl) ?_
        refine lv_iload hx hb d_C_isMarkUsed_11 (lv_at hl 0 rfl) ?_
        refine g_callVi (As := [.int (nI (i))]) (rest := []) ⟨hx, hb, hml, hown, hts⟩ (C := R_C) (index := 79) (c_C_isFree l D h cA n tb A hn hn2 (d) (j) hj (i) (by omega)) (cwV 1 hts (gd_V m_265 m_266 m_267 m_32 m_268) rfl rfl rfl hd_C_isFree ⟨Nat.le_of_ble_eq_true rfl, Nat.le_of_ble_eq_true rfl⟩) cW_w cX_x hB hP hS (ci := 2) rfl ((2 + j)) (cW_C hj) rfl hl.1 rfl (Nat.le_of_ble_eq_true rfl) d_C_isMarkUsed_13 ⟨Nat.zero_le _, Nat.zero_le _⟩ (fun r_ v_ H locs hw hP hS => ?_)
        obtain ⟨hw1, hw2⟩ := hw; have hw1 := hw1.symm; have hw2 := hw2.symm; subst hw1; subst hw2
        refine lv_if_ne (tgt := 47) hx hb d_C_isMarkUsed_16 (by decide) (fun c_16 => ?_) (fun c_16 => ?_)
        · have c_16 := bI_1 c_16
          refine lv_iinc (v := (nI (i + 1))) (lv' := [(5, .int (nI (i + 1))), (0, .ref (h (2 + j))), (1, .long (x)), (3, .long (y))]) hx hb d_C_isMarkUsed_47 hl (k := 0) rfl (nI_add _ _) (by decide) rfl (fun ls hl => ?_)
          refine lv_goto (tgt := 3) hx hb d_C_isMarkUsed_50 (by decide) ?_
          exact ih (i + 1) _ _ _ (by omega) (by omega) (lt_a hz (fun w => w.1 c_16)) hP hS (lv_sub hl [0, 1, 2, 3] rfl)
        · have c_16 := bI_0.mp c_16
          refine lv_aload_n hx hb d_C_isMarkUsed_19 rfl (lv_at hl 1 rfl) ?_
          refine lv_iload hx hb d_C_isMarkUsed_20 (lv_at hl 0 rfl) ?_
          refine lv_bipush (v := nI 16) hx hb d_C_isMarkUsed_22 rfl ?_
          refine g_callVl (As := [.int (nI (i)), .int (nI (16))]) (rest := []) ⟨hx, hb, hml, hown, hts⟩ (C := R_C) (index := 76) (c_C_getLong l D h cA n tb A hn hn2 (d) (j) hj (i) (16) (by omega) (by omega)) (cwV 2 hts (gd_V m_257 m_258 m_259 m_32 m_260) rfl rfl rfl hd_C_getLong ⟨Nat.le_of_ble_eq_true rfl, Nat.le_of_ble_eq_true rfl⟩) cW_w cX_x hB hP hS (ci := 2) rfl ((2 + j)) (cW_C hj) rfl hl.1 rfl (Nat.le_of_ble_eq_true rfl) d_C_isMarkUsed_24 ⟨Nat.zero_le _, Nat.zero_le _⟩ (fun r_ v_ H locs hw hP hS => ?_)
          obtain ⟨hw1, hw2⟩ := hw; have hw1 := hw1.symm; have hw2 := hw2.symm; subst hw1; subst hw2
          refine lv_lload_n hx hb d_C_isMarkUsed_27 rfl (lv_at hl 2 rfl) ?_
          refine W.lcmp hx hb d_C_isMarkUsed_28 ?_
          refine lv_if_ne (tgt := 47) hx hb d_C_isMarkUsed_29 (by decide) (fun c_29 => ?_) (fun c_29 => ?_)
          · have c_29 := fun z => c_29 ((lg_cmp_eq _ _).mpr z)
            refine lv_iinc (v := (nI (i + 1))) (lv' := [(5, .int (nI (i + 1))), (0, .ref (h (2 + j))), (1, .long (x)), (3, .long (y))]) hx hb d_C_isMarkUsed_47 hl (k := 0) rfl (nI_add _ _) (by decide) rfl (fun ls hl => ?_)
            refine lv_goto (tgt := 3) hx hb d_C_isMarkUsed_50 (by decide) ?_
            exact ih (i + 1) _ _ _ (by omega) (by omega) (lt_a hz (fun w => c_29 w.2.1)) hP hS (lv_sub hl [0, 1, 2, 3] rfl)
          · have c_29 := (lg_cmp_eq _ _).mp c_29
            refine lv_aload_n hx hb d_C_isMarkUsed_32 rfl (lv_at hl 1 rfl) ?_
            refine lv_iload hx hb d_C_isMarkUsed_33 (lv_at hl 0 rfl) ?_
            refine lv_bipush (v := nI 24) hx hb d_C_isMarkUsed_35 rfl ?_
            refine g_callVl (As := [.int (nI (i)), .int (nI (24))]) (rest := []) ⟨hx, hb, hml, hown, hts⟩ (C := R_C) (index := 76) (c_C_getLong l D h cA n tb A hn hn2 (d) (j) hj (i) (24) (by omega) (by omega)) (cwV 2 hts (gd_V m_257 m_258 m_259 m_32 m_260) rfl rfl rfl hd_C_getLong ⟨Nat.le_of_ble_eq_true rfl, Nat.le_of_ble_eq_true rfl⟩) cW_w cX_x hB hP hS (ci := 2) rfl ((2 + j)) (cW_C hj) rfl hl.1 rfl (Nat.le_of_ble_eq_true rfl) d_C_isMarkUsed_37 ⟨Nat.zero_le _, Nat.zero_le _⟩ (fun r_ v_ H locs hw hP hS => ?_)
            obtain ⟨hw1, hw2⟩ := hw; have hw1 := hw1.symm; have hw2 := hw2.symm; subst hw1; subst hw2
            refine lv_lload_n hx hb d_C_isMarkUsed_40 rfl (lv_at hl 3 rfl) ?_
            refine W.lcmp hx hb d_C_isMarkUsed_41 ?_
            refine lv_if_ne (tgt := 47) hx hb d_C_isMarkUsed_42 (by decide) (fun c_42 => ?_) (fun c_42 => ?_)
            · have c_42 := fun z => c_42 ((lg_cmp_eq _ _).mpr z)
              refine lv_iinc (v := (nI (i + 1))) (lv' := [(5, .int (nI (i + 1))), (0, .ref (h (2 + j))), (1, .long (x)), (3, .long (y))]) hx hb d_C_isMarkUsed_47 hl (k := 0) rfl (nI_add _ _) (by decide) rfl (fun ls hl => ?_)
              refine lv_goto (tgt := 3) hx hb d_C_isMarkUsed_50 (by decide) ?_
              exact ih (i + 1) _ _ _ (by omega) (by omega) (lt_a hz (fun w => c_42 w.2.2)) hP hS (lv_sub hl [0, 1, 2, 3] rfl)
            · have c_42 := (lg_cmp_eq _ _).mp c_42
              refine lv_iconst (v := nI 1) hx hb d_C_isMarkUsed_45 rfl ?_
              exact g_zret (v := (nI (1))) hx hb hr (rfl) hlk cW_w cX_x hB hP hS (⟨(bI_t ⟨i, hik, c_16, c_29, c_42⟩).symm, rfl⟩) d_C_isMarkUsed_46
  exact lp (8 + 1) 0 _ _ _ (Nat.zero_le _) (by omega) lt_0 hP hS (lv_sub hl [0, 1, 2, 3] rfl)
abbrev w_C_lowestFree : List Cond := .code y_C_lowestFree b_C_lowestFree 2 (some .int) :: ALL
abbrev rm_C_lowestFree : Room := { frames := 2, cells := 0, slots := 0, locals := 44 }
theorem hd_C_lowestFree : y_C_lowestFree.cls = R_C ∧ y_C_lowestFree.cls ≠ "java/lang/invoke/MethodHandle" ∧ y_C_lowestFree.cls ≠ "java/lang/invoke/VarHandle" ∧ (parseMethodDescriptor y_C_lowestFree.desc).map (fun d => d.parameters.length) = some 0 := by decide +kernel
set_option maxHeartbeats 4000000 in
set_option maxRecDepth 100000 in
theorem c_C_lowestFree (l : Launch) (D : va_G) (h : Nat → Nat) (cA : ClassId) (n tb : Nat) (A : Nat → Prop) (hn : 12 ≤ n) (hn2 : n ≤ 24) (d : Nat → BitVec 8) (j : Nat) (hj : j < 2) : Met l y_C_lowestFree w_C_lowestFree rm_C_lowestFree (va_Pc [.ref (h (2 + j))] (cB D h cA n tb A d)) (va_Qi (fun r v => r = loR (frE d (cAr n j)) 8 0 ∧ v = d) (cB D h cA n tb A) A) 0 0 A := by
  refine g_ofW (cc := b_C_lowestFree) (maxL := 2) (ret := (some .int)) (by decide) rfl (Nat.le_of_ble_eq_true rfl) ?_
  intro p e s m below meth c ls hx hb hml hr hlk hown hts hnm hB hl
  have hown : s.vm.findClass R_C = some m.cls := hown
  have hP := hB.1
  have hK := hB.2.1
  have hS : va_S A s.heap s.heap [] := va_S.rf
  have hl : lv_has ls 2 [(0, .ref (h (2 + j)))] := hl
  have hHd := cHd_le hn hj
  have hAr := cAr_le hn hj
  refine lv_iconst (v := nI 0) hx hb d_C_lowestFree_0 rfl ?_
  refine lv_istore_n (lv' := [(1, .int (nI (0))), (0, .ref (h (2 + j)))]) hx hb d_C_lowestFree_1 rfl hl (by decide) rfl (fun ls hl => ?_)
  have lp : ∀ (q : Nat) (i : Nat) (H : Heap) (locs : List Loc) (ls : Array Slot), (i ≤ 8) → (8 + 1 ≤ i + q) → (loR (frE d (cAr n j)) 8 0 = loR (frE d (cAr n j)) (8 - i) i) → va_P D classes (cW h cA n (d)) H → va_S A s.heap H locs → lv_has ls 2 [(1, .int (nI (i))), (0, .ref (h (2 + j)))] → W p l e rm_C_lowestFree s m ([.ref (h (2 + j))] : List Value).toArray below meth c H locs 0 0 (MQ below (va_Qi (fun r v => r = loR (frE d (cAr n j)) 8 0 ∧ v = d) (cB D h cA n tb A) A) ([.ref (h (2 + j))] : List Value).toArray s 0 0 A) (F0 m 2 ls []) := by
    intro q
    induction q with
    | zero =>
      intro i H locs ls hi hq hz hP hS hl
      exact absurd hq (by omega)
    | succ q ih =>
      intro i H locs ls hi hq hz hP hS hl
      refine lv_iload_n hx hb d_C_lowestFree_2 rfl (lv_at hl 0 rfl) ?_
      refine lv_bipush (v := nI 8) hx hb d_C_lowestFree_3 rfl ?_
      refine lv_icmp_ge (tgt := 24) hx hb d_C_lowestFree_5 (by decide) (fun c_5 => ?_) (fun c_5 => ?_)
      · have hik : i = 8 := ge_t hi (by omega) c_5
        refine lv_iconst (v := -1) hx hb d_C_lowestFree_24 rfl ?_
        exact g_iret (v := (-1)) hx hb hr hlk cW_w cX_x hB hP hS (⟨by rw [hz, hik]; rfl, rfl⟩) d_C_lowestFree_25
      · have hik : i < 8 := ge_f (by omega) (by omega) c_5
        refine lv_aload_n hx hb d_C_lowestFree_8 rfl (lv_at hl 1 rfl) ?_
        refine lv_iload_n hx hb d_C_lowestFree_9 rfl (lv_at hl 0 rfl) ?_
        refine g_callVi (As := [.int (nI (i))]) (rest := []) ⟨hx, hb, hml, hown, hts⟩ (C := R_C) (index := 79) (c_C_isFree l D h cA n tb A hn hn2 (d) (j) hj (i) (by omega)) (cwV 1 hts (gd_V m_265 m_266 m_267 m_32 m_268) rfl rfl rfl hd_C_isFree ⟨Nat.le_of_ble_eq_true rfl, Nat.le_of_ble_eq_true rfl⟩) cW_w cX_x hB hP hS (ci := 2) rfl ((2 + j)) (cW_C hj) rfl hl.1 rfl (Nat.le_of_ble_eq_true rfl) d_C_lowestFree_10 ⟨Nat.zero_le _, Nat.zero_le _⟩ (fun r_ v_ H locs hw hP hS => ?_)
        obtain ⟨hw1, hw2⟩ := hw; have hw1 := hw1.symm; have hw2 := hw2.symm; subst hw1; subst hw2
        refine lv_if_eq (tgt := 18) hx hb d_C_lowestFree_13 (by decide) (fun c_13 => ?_) (fun c_13 => ?_)
        · have c_13 := bI_0.mp c_13
          refine lv_iinc (v := (nI (i + 1))) (lv' := [(1, .int (nI (i + 1))), (0, .ref (h (2 + j)))]) hx hb d_C_lowestFree_18 hl (k := 0) rfl (nI_add _ _) (by decide) rfl (fun ls hl => ?_)
          refine lv_goto (tgt := 2) hx hb d_C_lowestFree_21 (by decide) ?_
          exact ih (i + 1) _ _ _ (by omega) (by omega) (hz.trans (loR_f hik c_13)) hP hS (lv_sub hl [0, 1] rfl)
        · have c_13 := bI_1 c_13
          refine lv_iload_n hx hb d_C_lowestFree_16 rfl (lv_at hl 0 rfl) ?_
          exact g_iret (v := (nI (i))) hx hb hr hlk cW_w cX_x hB hP hS (⟨(hz.trans (loR_t hik c_13)).symm, rfl⟩) d_C_lowestFree_17
  exact lp (8 + 1) 0 _ _ _ (Nat.zero_le _) (by omega) rfl hP hS (lv_sub hl [0, 1] rfl)
abbrev w_C_partitions : List Cond := .code y_C_partitions b_C_partitions 3 (some .int) :: ALL
abbrev rm_C_partitions : Room := { frames := 2, cells := 0, slots := 0, locals := 44 }
theorem hd_C_partitions : y_C_partitions.cls = R_C ∧ y_C_partitions.cls ≠ "java/lang/invoke/MethodHandle" ∧ y_C_partitions.cls ≠ "java/lang/invoke/VarHandle" ∧ (parseMethodDescriptor y_C_partitions.desc).map (fun d => d.parameters.length) = some 0 := by decide +kernel
set_option maxHeartbeats 4000000 in
set_option maxRecDepth 100000 in
theorem c_C_partitions (l : Launch) (D : va_G) (h : Nat → Nat) (cA : ClassId) (n tb : Nat) (A : Nat → Prop) (hn : 12 ≤ n) (hn2 : n ≤ 24) (d : Nat → BitVec 8) (j : Nat) (hj : j < 2) : Met l y_C_partitions w_C_partitions rm_C_partitions (va_Pc [.ref (h (2 + j))] (cB D h cA n tb A d)) (va_Qi (fun r v => r = nI (cnN (fun i => ¬ frE d (cAr n j) i) 8) ∧ v = d) (cB D h cA n tb A) A) 0 0 A := by
  refine g_ofW (cc := b_C_partitions) (maxL := 3) (ret := (some .int)) (by decide) rfl (Nat.le_of_ble_eq_true rfl) ?_
  intro p e s m below meth c ls hx hb hml hr hlk hown hts hnm hB hl
  have hown : s.vm.findClass R_C = some m.cls := hown
  have hP := hB.1
  have hK := hB.2.1
  have hS : va_S A s.heap s.heap [] := va_S.rf
  have hl : lv_has ls 3 [(0, .ref (h (2 + j)))] := hl
  have hHd := cHd_le hn hj
  have hAr := cAr_le hn hj
  refine lv_iconst (v := nI 0) hx hb d_C_partitions_0 rfl ?_
  refine lv_istore_n (lv' := [(1, .int (nI (0))), (0, .ref (h (2 + j)))]) hx hb d_C_partitions_1 rfl hl (by decide) rfl (fun ls hl => ?_)
  refine lv_iconst (v := nI 0) hx hb d_C_partitions_2 rfl ?_
  refine lv_istore_n (lv' := [(2, .int (nI (0))), (1, .int (nI (0))), (0, .ref (h (2 + j)))]) hx hb d_C_partitions_3 rfl hl (by decide) rfl (fun ls hl => ?_)
  have lp : ∀ (q : Nat) (i x : Nat) (H : Heap) (locs : List Loc) (ls : Array Slot), (i ≤ 8) → (8 + 1 ≤ i + q) → (x = cnN (fun i => ¬ frE d (cAr n j) i) i) → va_P D classes (cW h cA n (d)) H → va_S A s.heap H locs → lv_has ls 3 [(2, .int (nI (i))), (1, .int (nI (x))), (0, .ref (h (2 + j)))] → W p l e rm_C_partitions s m ([.ref (h (2 + j))] : List Value).toArray below meth c H locs 0 0 (MQ below (va_Qi (fun r v => r = nI (cnN (fun i => ¬ frE d (cAr n j) i) 8) ∧ v = d) (cB D h cA n tb A) A) ([.ref (h (2 + j))] : List Value).toArray s 0 0 A) (F0 m 4 ls []) := by
    intro q
    induction q with
    | zero =>
      intro i x H locs ls hi hq hz hP hS hl
      exact absurd hq (by omega)
    | succ q ih =>
      intro i x H locs ls hi hq hz hP hS hl
      refine lv_iload_n hx hb d_C_partitions_4 rfl (lv_at hl 0 rfl) ?_
      refine lv_bipush (v := nI 8) hx hb d_C_partitions_5 rfl ?_
      refine lv_icmp_ge (tgt := 27) hx hb d_C_partitions_7 (by decide) (fun c_7 => ?_) (fun c_7 => ?_)
      · have hik : i = 8 := ge_t hi (by omega) c_7
        refine lv_iload_n hx hb d_C_partitions_27 rfl (lv_at hl 1 rfl) ?_
        exact g_iret (v := (nI (x))) hx hb hr hlk cW_w cX_x hB hP hS (⟨by rw [hz, hik], rfl⟩) d_C_partitions_28
      · have hik : i < 8 := ge_f (by omega) (by omega) c_7
        refine lv_aload_n hx hb d_C_partitions_10 rfl (lv_at hl 2 rfl) ?_
        refine lv_iload_n hx hb d_C_partitions_11 rfl (lv_at hl 0 rfl) ?_
        refine g_callVi (As := [.int (nI (i))]) (rest := []) ⟨hx, hb, hml, hown, hts⟩ (C := R_C) (index := 79) (c_C_isFree l D h cA n tb A hn hn2 (d) (j) hj (i) (by omega)) (cwV 1 hts (gd_V m_265 m_266 m_267 m_32 m_268) rfl rfl rfl hd_C_isFree ⟨Nat.le_of_ble_eq_true rfl, Nat.le_of_ble_eq_true rfl⟩) cW_w cX_x hB hP hS (ci := 2) rfl ((2 + j)) (cW_C hj) rfl hl.1 rfl (Nat.le_of_ble_eq_true rfl) d_C_partitions_12 ⟨Nat.zero_le _, Nat.zero_le _⟩ (fun r_ v_ H locs hw hP hS => ?_)
        obtain ⟨hw1, hw2⟩ := hw; have hw1 := hw1.symm; have hw2 := hw2.symm; subst hw1; subst hw2
        refine lv_if_ne (tgt := 21) hx hb d_C_partitions_15 (by decide) (fun c_15 => ?_) (fun c_15 => ?_)
        · have c_15 := bI_1 c_15
          refine lv_iinc (v := (nI (i + 1))) (lv' := [(2, .int (nI (i + 1))), (1, .int (nI (x))), (0, .ref (h (2 + j)))]) hx hb d_C_partitions_21 hl (k := 0) rfl (nI_add _ _) (by decide) rfl (fun ls hl => ?_)
          refine lv_goto (tgt := 4) hx hb d_C_partitions_24 (by decide) ?_
          exact ih (i + 1) _ _ _ _ (by omega) (by omega) (by rw [hz]; exact cnN_f (fun w => w c_15)) hP hS (lv_sub hl [0, 1, 2] rfl)
        · have c_15 := bI_0.mp c_15
          refine lv_iinc (v := (nI (x + 1))) (lv' := [(1, .int (nI (x + 1))), (2, .int (nI (i))), (0, .ref (h (2 + j)))]) hx hb d_C_partitions_18 hl (k := 1) rfl (nI_add _ _) (by decide) rfl (fun ls hl => ?_)
          refine lv_iinc (v := (nI (i + 1))) (lv' := [(2, .int (nI (i + 1))), (1, .int (nI (x + 1))), (0, .ref (h (2 + j)))]) hx hb d_C_partitions_21 hl (k := 1) rfl (nI_add _ _) (by decide) rfl (fun ls hl => ?_)
          refine lv_goto (tgt := 4) hx hb d_C_partitions_24 (by decide) ?_
          exact ih (i + 1) _ _ _ _ (by omega) (by omega) (by rw [hz]; exact cnN_t c_15) hP hS (lv_sub hl [0, 1, 2] rfl)
  exact lp (8 + 1) 0 0 _ _ _ (Nat.zero_le _) (by omega) rfl hP hS (lv_sub hl [0, 1, 2] rfl)
abbrev w_C_unusedBlocks : List Cond := .code y_C_unusedBlocks b_C_unusedBlocks 3 (some .int) :: ALL
abbrev rm_C_unusedBlocks : Room := { frames := 2, cells := 0, slots := 0, locals := 47 }
theorem hd_C_unusedBlocks : y_C_unusedBlocks.cls = R_C ∧ y_C_unusedBlocks.cls ≠ "java/lang/invoke/MethodHandle" ∧ y_C_unusedBlocks.cls ≠ "java/lang/invoke/VarHandle" ∧ (parseMethodDescriptor y_C_unusedBlocks.desc).map (fun d => d.parameters.length) = some 0 := by decide +kernel
set_option maxHeartbeats 4000000 in
set_option maxRecDepth 100000 in
theorem c_C_unusedBlocks (l : Launch) (D : va_G) (h : Nat → Nat) (cA : ClassId) (n tb : Nat) (A : Nat → Prop) (hn : 12 ≤ n) (hn2 : n ≤ 24) (d : Nat → BitVec 8) (j : Nat) (hj : j < 2) : Met l y_C_unusedBlocks w_C_unusedBlocks rm_C_unusedBlocks (va_Pc [.ref (h (2 + j))] (cB D h cA n tb A d)) (va_Qi (fun r v => r = unU d (cAr n j) (nI (n - 4 - 4 + 1)) 8 ∧ v = d) (cB D h cA n tb A) A) 0 0 A := by
  refine g_ofW (cc := b_C_unusedBlocks) (maxL := 3) (ret := (some .int)) (by decide) rfl (Nat.le_of_ble_eq_true rfl) ?_
  intro p e s m below meth c ls hx hb hml hr hlk hown hts hnm hB hl
  have hown : s.vm.findClass R_C = some m.cls := hown
  have hP := hB.1
  have hK := hB.2.1
  have hS : va_S A s.heap s.heap [] := va_S.rf
  have hl : lv_has ls 3 [(0, .ref (h (2 + j)))] := hl
  have hHd := cHd_le hn hj
  have hAr := cAr_le hn hj
  refine lv_aload_n hx hb d_C_unusedBlocks_0 rfl (lv_at hl 0 rfl) ?_
  refine va_get (D := D) (ci := 2) (v := .int (nI (n - 4))) (C := R_C) (T := F_C) (N := 8) hx hb hts (fun w h => .tail _ (fi_C w h)) hown hK hP (2 + j) (cW_C hj) rfl 5 (by decide) (hts _ (.tail _ m_66)) (fun _ h9 => h9) rfl d_C_unusedBlocks_1 ?_
  refine lv_iconst (v := nI 4) hx hb d_C_unusedBlocks_4 rfl ?_
  refine lv_isubN hx hb d_C_unusedBlocks_5 (by omega) ?_
  refine lv_iconst (v := nI 1) hx hb d_C_unusedBlocks_6 rfl ?_
  refine lv_iaddN hx hb d_C_unusedBlocks_7 ?_
  refine lv_istore_n (lv' := [(1, .int (nI (((n - 4) - 4) + 1))), (0, .ref (h (2 + j)))]) hx hb d_C_unusedBlocks_8 rfl hl (by decide) rfl (fun ls hl => ?_)
  refine lv_iconst (v := nI 0) hx hb d_C_unusedBlocks_9 rfl ?_
  refine lv_istore_n (lv' := [(2, .int (nI (0))), (1, .int (nI (((n - 4) - 4) + 1))), (0, .ref (h (2 + j)))]) hx hb d_C_unusedBlocks_10 rfl hl (by decide) rfl (fun ls hl => ?_)
  have lp : ∀ (q : Nat) (i : Nat) (x : Int32) (H : Heap) (locs : List Loc) (ls : Array Slot), (i ≤ 8) → (8 + 1 ≤ i + q) → (x = unU d (cAr n j) (nI (n - 4 - 4 + 1)) i) → va_P D classes (cW h cA n (d)) H → va_S A s.heap H locs → lv_has ls 3 [(2, .int (nI (i))), (1, .int (x)), (0, .ref (h (2 + j)))] → W p l e rm_C_unusedBlocks s m ([.ref (h (2 + j))] : List Value).toArray below meth c H locs 0 0 (MQ below (va_Qi (fun r v => r = unU d (cAr n j) (nI (n - 4 - 4 + 1)) 8 ∧ v = d) (cB D h cA n tb A) A) ([.ref (h (2 + j))] : List Value).toArray s 0 0 A) (F0 m 11 ls []) := by
    intro q
    induction q with
    | zero =>
      intro i x H locs ls hi hq hz hP hS hl
      exact absurd hq (by omega)
    | succ q ih =>
      intro i x H locs ls hi hq hz hP hS hl
      refine lv_iload_n hx hb d_C_unusedBlocks_11 rfl (lv_at hl 0 rfl) ?_
      refine lv_bipush (v := nI 8) hx hb d_C_unusedBlocks_12 rfl ?_
      refine lv_icmp_ge (tgt := 52) hx hb d_C_unusedBlocks_14 (by decide) (fun c_14 => ?_) (fun c_14 => ?_)
      · have hik : i = 8 := ge_t hi (by omega) c_14
        refine lv_iload_n hx hb d_C_unusedBlocks_52 rfl (lv_at hl 1 rfl) ?_
        exact g_iret (v := (x)) hx hb hr hlk cW_w cX_x hB hP hS (⟨by rw [hz, hik], rfl⟩) d_C_unusedBlocks_53
      · have hik : i < 8 := ge_f (by omega) (by omega) c_14
        refine lv_aload_n hx hb d_C_unusedBlocks_17 rfl (lv_at hl 2 rfl) ?_
        refine lv_iload_n hx hb d_C_unusedBlocks_18 rfl (lv_at hl 0 rfl) ?_
        refine g_callVi (As := [.int (nI (i))]) (rest := []) ⟨hx, hb, hml, hown, hts⟩ (C := R_C) (index := 79) (c_C_isFree l D h cA n tb A hn hn2 (d) (j) hj (i) (by omega)) (cwV 1 hts (gd_V m_265 m_266 m_267 m_32 m_268) rfl rfl rfl hd_C_isFree ⟨Nat.le_of_ble_eq_true rfl, Nat.le_of_ble_eq_true rfl⟩) cW_w cX_x hB hP hS (ci := 2) rfl ((2 + j)) (cW_C hj) rfl hl.1 rfl (Nat.le_of_ble_eq_true rfl) d_C_unusedBlocks_19 ⟨Nat.zero_le _, Nat.zero_le _⟩ (fun r_ v_ H locs hw hP hS => ?_)
        obtain ⟨hw1, hw2⟩ := hw; have hw1 := hw1.symm; have hw2 := hw2.symm; subst hw1; subst hw2
        refine lv_if_ne (tgt := 46) hx hb d_C_unusedBlocks_22 (by decide) (fun c_22 => ?_) (fun c_22 => ?_)
        · have c_22 := bI_1 c_22
          refine lv_iinc (v := (nI (i + 1))) (lv' := [(2, .int (nI (i + 1))), (1, .int (x)), (0, .ref (h (2 + j)))]) hx hb d_C_unusedBlocks_46 hl (k := 0) rfl (nI_add _ _) (by decide) rfl (fun ls hl => ?_)
          refine lv_goto (tgt := 11) hx hb d_C_unusedBlocks_49 (by decide) ?_
          exact ih (i + 1) _ _ _ _ (by omega) (by omega) (by rw [hz]; exact (cI_t c_22).symm) hP hS (lv_sub hl [0, 1, 2] rfl)
        · have c_22 := bI_0.mp c_22
          refine lv_iload_n hx hb d_C_unusedBlocks_25 rfl (lv_at hl 1 rfl) ?_
          refine lv_aload_n hx hb d_C_unusedBlocks_26 rfl (lv_at hl 2 rfl) ?_
          refine lv_iload_n hx hb d_C_unusedBlocks_27 rfl (lv_at hl 0 rfl) ?_
          refine lv_bipush (v := nI 40) hx hb d_C_unusedBlocks_28 rfl ?_
          refine g_callVl (As := [.int (nI (i)), .int (nI (40))]) (rest := [.int (x)]) ⟨hx, hb, hml, hown, hts⟩ (C := R_C) (index := 76) (c_C_getLong l D h cA n tb A hn hn2 (d) (j) hj (i) (40) (by omega) (by omega)) (cwV 2 hts (gd_V m_257 m_258 m_259 m_32 m_260) rfl rfl rfl hd_C_getLong ⟨Nat.le_of_ble_eq_true rfl, Nat.le_of_ble_eq_true rfl⟩) cW_w cX_x hB hP hS (ci := 2) rfl ((2 + j)) (cW_C hj) rfl hl.1 rfl (Nat.le_of_ble_eq_true rfl) d_C_unusedBlocks_30 ⟨Nat.zero_le _, Nat.zero_le _⟩ (fun r_ v_ H locs hw hP hS => ?_)
          obtain ⟨hw1, hw2⟩ := hw; have hw1 := hw1.symm; have hw2 := hw2.symm; subst hw1; subst hw2
          refine lv_aload_n hx hb d_C_unusedBlocks_33 rfl (lv_at hl 2 rfl) ?_
          refine lv_iload_n hx hb d_C_unusedBlocks_34 rfl (lv_at hl 0 rfl) ?_
          refine lv_bipush (v := nI 32) hx hb d_C_unusedBlocks_35 rfl ?_
          refine g_callVl (As := [.int (nI (i)), .int (nI (32))]) (rest := [.long (num d (cAr n j + i * 128 + 40) 8), .int (x)]) ⟨hx, hb, hml, hown, hts⟩ (C := R_C) (index := 76) (c_C_getLong l D h cA n tb A hn hn2 (d) (j) hj (i) (32) (by omega) (by omega)) (cwV 2 hts (gd_V m_257 m_258 m_259 m_32 m_260) rfl rfl rfl hd_C_getLong ⟨Nat.le_of_ble_eq_true rfl, Nat.le_of_ble_eq_true rfl⟩) cW_w cX_x hB hP hS (ci := 2) rfl ((2 + j)) (cW_C hj) rfl hl.1 rfl (Nat.le_of_ble_eq_true rfl) d_C_unusedBlocks_37 ⟨Nat.zero_le _, Nat.zero_le _⟩ (fun r_ v_ H locs hw hP hS => ?_)
          obtain ⟨hw1, hw2⟩ := hw; have hw1 := hw1.symm; have hw2 := hw2.symm; subst hw1; subst hw2
          refine lv_lsub hx hb d_C_unusedBlocks_40 ?_
          refine lv_lconst (v := 1) hx hb d_C_unusedBlocks_41 rfl ?_
          refine lv_ladd hx hb d_C_unusedBlocks_42 ?_
          refine lv_l2i hx hb d_C_unusedBlocks_43 rfl ?_
          refine lv_isub hx hb d_C_unusedBlocks_44 ?_
          refine lv_istore_n (lv' := [(1, .int ((x) - ((((num d (cAr n j + i * 128 + 40) 8) - (num d (cAr n j + i * 128 + 32) 8)) + (1)).toInt32))), (2, .int (nI (i))), (0, .ref (h (2 + j)))]) hx hb d_C_unusedBlocks_45 rfl hl (by decide) rfl (fun ls hl => ?_)
          refine lv_iinc (v := (nI (i + 1))) (lv' := [(2, .int (nI (i + 1))), (1, .int ((x) - ((((num d (cAr n j + i * 128 + 40) 8) - (num d (cAr n j + i * 128 + 32) 8)) + (1)).toInt32))), (0, .ref (h (2 + j)))]) hx hb d_C_unusedBlocks_46 hl (k := 1) rfl (nI_add _ _) (by decide) rfl (fun ls hl => ?_)
          refine lv_goto (tgt := 11) hx hb d_C_unusedBlocks_49 (by decide) ?_
          exact ih (i + 1) _ _ _ _ (by omega) (by omega) (by rw [hz]; exact (cI_f c_22).symm) hP hS (lv_sub hl [0, 1, 2] rfl)
  exact lp (8 + 1) 0 _ _ _ _ (Nat.zero_le _) (by omega) rfl hP hS (lv_sub hl [0, 1, 2] rfl)
abbrev w_C_isMarkRepeated : List Cond := .code y_C_isMarkRepeated b_C_isMarkRepeated 4 (some .boolean) :: ALL
abbrev rm_C_isMarkRepeated : Room := { frames := 2, cells := 0, slots := 0, locals := 44 }
theorem hd_C_isMarkRepeated : y_C_isMarkRepeated.cls = R_C ∧ y_C_isMarkRepeated.cls ≠ "java/lang/invoke/MethodHandle" ∧ y_C_isMarkRepeated.cls ≠ "java/lang/invoke/VarHandle" ∧ (parseMethodDescriptor y_C_isMarkRepeated.desc).map (fun d => d.parameters.length) = some 1 := by decide +kernel
set_option maxHeartbeats 4000000 in
set_option maxRecDepth 100000 in
theorem c_C_isMarkRepeated (l : Launch) (D : va_G) (h : Nat → Nat) (cA : ClassId) (n tb : Nat) (A : Nat → Prop) (hn : 12 ≤ n) (hn2 : n ≤ 24) (d : Nat → BitVec 8) (j : Nat) (hj : j < 2) (i : Nat) (h1 : i < 8) : Met l y_C_isMarkRepeated w_C_isMarkRepeated rm_C_isMarkRepeated (va_Pc [.ref (h (2 + j)), .int (nI (i))] (cB D h cA n tb A d)) (va_Qi (fun r v => r = bI (mRe d (cAr n j) i) ∧ v = d) (cB D h cA n tb A) A) 0 0 A := by
  refine g_ofW (cc := b_C_isMarkRepeated) (maxL := 4) (ret := (some .boolean)) (by decide) rfl (Nat.le_of_ble_eq_true rfl) ?_
  intro p e s m below meth c ls hx hb hml hr hlk hown hts hnm hB hl
  have hown : s.vm.findClass R_C = some m.cls := hown
  have hP := hB.1
  have hK := hB.2.1
  have hS : va_S A s.heap s.heap [] := va_S.rf
  have hl : lv_has ls 4 [(0, .ref (h (2 + j))), (1, .int (nI (i)))] := hl
  have hHd := cHd_le hn hj
  have hAr := cAr_le hn hj
  refine lv_aload_n hx hb d_C_isMarkRepeated_0 rfl (lv_at hl 0 rfl) ?_
  refine lv_iload_n hx hb d_C_isMarkRepeated_1 rfl (lv_at hl 1 rfl) ?_
  refine g_callVi (As := [.int (nI (i))]) (rest := []) ⟨hx, hb, hml, hown, hts⟩ (C := R_C) (index := 94) (c_C_placeOf l D h cA n tb A hn hn2 (d) (j) hj (i)) (cwV 1 hts (gd_V m_261 m_263 m_11 m_32 m_264) rfl rfl rfl hd_C_placeOf ⟨Nat.le_of_ble_eq_true rfl, Nat.le_of_ble_eq_true rfl⟩) cW_w cX_x hB hP hS (ci := 2) rfl ((2 + j)) (cW_C hj) rfl hl.1 rfl (Nat.le_of_ble_eq_true rfl) d_C_isMarkRepeated_2 ⟨Nat.zero_le _, Nat.zero_le _⟩ (fun r_ v_ H locs hw hP hS => ?_)
  obtain ⟨hw1, hw2⟩ := hw; have hw1 := hw1.symm; have hw2 := hw2.symm; subst hw1; subst hw2
  refine lv_bipush (v := nI 16) hx hb d_C_isMarkRepeated_5 rfl ?_
  refine lv_iaddN hx hb d_C_isMarkRepeated_7 ?_
  refine lv_istore_n (lv' := [(2, .int (nI ((cAr n j + i * 128) + 16))), (0, .ref (h (2 + j))), (1, .int (nI (i)))]) hx hb d_C_isMarkRepeated_8 rfl hl (by decide) rfl (fun ls hl => ?_)
  refine lv_iconst (v := nI 0) hx hb d_C_isMarkRepeated_9 rfl ?_
  refine lv_istore_n (lv' := [(3, .int (nI (0))), (2, .int (nI ((cAr n j + i * 128) + 16))), (0, .ref (h (2 + j))), (1, .int (nI (i)))]) hx hb d_C_isMarkRepeated_10 rfl hl (by decide) rfl (fun ls hl => ?_)
  have lp : ∀ (q : Nat) (k : Nat) (H : Heap) (locs : List Loc) (ls : Array Slot), (k ≤ i) → (i + 1 ≤ k + q) → (∀ t, t < k → ¬ mrQ d (cAr n j) i t) → va_P D classes (cW h cA n (d)) H → va_S A s.heap H locs → lv_has ls 4 [(3, .int (nI (k))), (2, .int (nI ((cAr n j + i * 128) + 16))), (0, .ref (h (2 + j))), (1, .int (nI (i)))] → W p l e rm_C_isMarkRepeated s m ([.ref (h (2 + j)), .int (nI (i))] : List Value).toArray below meth c H locs 0 0 (MQ below (va_Qi (fun r v => r = bI (mRe d (cAr n j) i) ∧ v = d) (cB D h cA n tb A) A) ([.ref (h (2 + j)), .int (nI (i))] : List Value).toArray s 0 0 A) (F0 m 11 ls []) := by
    intro q
    induction q with
    | zero =>
      intro k H locs ls hi hq hz hP hS hl
      exact absurd hq (by omega)
    | succ q ih =>
      intro k H locs ls hi hq hz hP hS hl
      refine lv_iload_n hx hb d_C_isMarkRepeated_11 rfl (lv_at hl 0 rfl) ?_
      refine lv_iload_n hx hb d_C_isMarkRepeated_12 rfl (lv_at hl 3 rfl) ?_
      refine lv_icmp_ge (tgt := 53) hx hb d_C_isMarkRepeated_13 (by decide) (fun c_13 => ?_) (fun c_13 => ?_)
      · have hik : k = i := ge_t hi (by omega) c_13
        refine lv_iconst (v := nI 0) hx hb d_C_isMarkRepeated_53 rfl ?_
        exact g_zret (v := (nI (0))) hx hb hr (rfl) hlk cW_w cX_x hB hP hS (⟨(bI_f (nex (by rw [hik] at hz; exact hz))).symm, rfl⟩) d_C_isMarkRepeated_54
      · have hik : k < i := ge_f (by omega) (by omega) c_13
        refine lv_aload_n hx hb d_C_isMarkRepeated_16 rfl (lv_at hl 2 rfl) ?_
        refine lv_iload_n hx hb d_C_isMarkRepeated_17 rfl (lv_at hl 0 rfl) ?_
        refine g_callVi (As := [.int (nI (k))]) (rest := []) ⟨hx, hb, hml, hown, hts⟩ (C := R_C) (index := 79) (c_C_isFree l D h cA n tb A hn hn2 (d) (j) hj (k) (by omega)) (cwV 1 hts (gd_V m_265 m_266 m_267 m_32 m_268) rfl rfl rfl hd_C_isFree ⟨Nat.le_of_ble_eq_true rfl, Nat.le_of_ble_eq_true rfl⟩) cW_w cX_x hB hP hS (ci := 2) rfl ((2 + j)) (cW_C hj) rfl hl.1 rfl (Nat.le_of_ble_eq_true rfl) d_C_isMarkRepeated_18 ⟨Nat.zero_le _, Nat.zero_le _⟩ (fun r_ v_ H locs hw hP hS => ?_)
        obtain ⟨hw1, hw2⟩ := hw; have hw1 := hw1.symm; have hw2 := hw2.symm; subst hw1; subst hw2
        refine lv_if_ne (tgt := 47) hx hb d_C_isMarkRepeated_21 (by decide) (fun c_21 => ?_) (fun c_21 => ?_)
        · have c_21 := bI_1 c_21
          refine lv_iinc (v := (nI (k + 1))) (lv' := [(3, .int (nI (k + 1))), (2, .int (nI ((cAr n j + i * 128) + 16))), (0, .ref (h (2 + j))), (1, .int (nI (i)))]) hx hb d_C_isMarkRepeated_47 hl (k := 0) rfl (nI_add _ _) (by decide) rfl (fun ls hl => ?_)
          refine lv_goto (tgt := 11) hx hb d_C_isMarkRepeated_50 (by decide) ?_
          exact ih (k + 1) _ _ _ (by omega) (by omega) (lt_a hz (fun w => w.1 c_21)) hP hS (lv_sub hl [0, 1, 2, 3] rfl)
        · have c_21 := bI_0.mp c_21
          refine lv_aload_n hx hb d_C_isMarkRepeated_24 rfl (lv_at hl 2 rfl) ?_
          refine va_get (D := D) (ci := 2) (v := .ref (h 1)) (C := R_C) (T := F_C) (N := 8) hx hb hts (fun w h => .tail _ (fi_C w h)) hown hK hP (2 + j) (cW_C hj) rfl 1 (by decide) (hts _ (.tail _ m_62)) (fun _ h9 => h9) rfl d_C_isMarkRepeated_25 ?_
          refine lv_aload_n hx hb d_C_isMarkRepeated_28 rfl (lv_at hl 2 rfl) ?_
          refine lv_iload_n hx hb d_C_isMarkRepeated_29 rfl (lv_at hl 0 rfl) ?_
          refine g_callVi (As := [.int (nI (k))]) (rest := [.ref (h 1)]) ⟨hx, hb, hml, hown, hts⟩ (C := R_C) (index := 94) (c_C_placeOf l D h cA n tb A hn hn2 (d) (j) hj (k)) (cwV 1 hts (gd_V m_261 m_263 m_11 m_32 m_264) rfl rfl rfl hd_C_placeOf ⟨Nat.le_of_ble_eq_true rfl, Nat.le_of_ble_eq_true rfl⟩) cW_w cX_x hB hP hS (ci := 2) rfl ((2 + j)) (cW_C hj) rfl hl.1 rfl (Nat.le_of_ble_eq_true rfl) d_C_isMarkRepeated_30 ⟨Nat.zero_le _, Nat.zero_le _⟩ (fun r_ v_ H locs hw hP hS => ?_)
          obtain ⟨hw1, hw2⟩ := hw; have hw1 := hw1.symm; have hw2 := hw2.symm; subst hw1; subst hw2
          refine lv_bipush (v := nI 16) hx hb d_C_isMarkRepeated_33 rfl ?_
          refine lv_iaddN hx hb d_C_isMarkRepeated_35 ?_
          refine lv_iload_n hx hb d_C_isMarkRepeated_36 rfl (lv_at hl 1 rfl) ?_
          refine lv_bipush (v := nI 16) hx hb d_C_isMarkRepeated_37 rfl ?_
          refine g_callVi (As := [.int (nI ((cAr n j + k * 128) + 16)), .int (nI ((cAr n j + i * 128) + 16)), .int (nI (16))]) (rest := []) ⟨hx, hb, hml, hown, hts⟩ (C := R_B) (index := 98) (c_B_areAlike l D h cA n tb A hn hn2 (d) ((cAr n j + k * 128) + 16) ((cAr n j + i * 128) + 16) (16) (by omega) (by omega)) (cwV 3 hts (gd_V m_282 m_283 m_284 m_31 m_285) rfl rfl rfl hd_B_areAlike ⟨Nat.le_of_ble_eq_true rfl, Nat.le_of_ble_eq_true rfl⟩) cW_w cX_x hB hP hS (ci := 1) rfl (1) rfl rfl hl.1 rfl (Nat.le_of_ble_eq_true rfl) d_C_isMarkRepeated_39 ⟨Nat.zero_le _, Nat.zero_le _⟩ (fun r_ v_ H locs hw hP hS => ?_)
          obtain ⟨hw1, hw2⟩ := hw; have hw1 := hw1.symm; have hw2 := hw2.symm; subst hw1; subst hw2
          refine lv_if_eq (tgt := 47) hx hb d_C_isMarkRepeated_42 (by decide) (fun c_42 => ?_) (fun c_42 => ?_)
          · have c_42 := bI_0.mp c_42
            refine lv_iinc (v := (nI (k + 1))) (lv' := [(3, .int (nI (k + 1))), (2, .int (nI ((cAr n j + i * 128) + 16))), (0, .ref (h (2 + j))), (1, .int (nI (i)))]) hx hb d_C_isMarkRepeated_47 hl (k := 0) rfl (nI_add _ _) (by decide) rfl (fun ls hl => ?_)
            refine lv_goto (tgt := 11) hx hb d_C_isMarkRepeated_50 (by decide) ?_
            exact ih (k + 1) _ _ _ (by omega) (by omega) (lt_a hz (fun w => c_42 w.2)) hP hS (lv_sub hl [0, 1, 2, 3] rfl)
          · have c_42 := bI_1 c_42
            refine lv_iconst (v := nI 1) hx hb d_C_isMarkRepeated_45 rfl ?_
            exact g_zret (v := (nI (1))) hx hb hr (rfl) hlk cW_w cX_x hB hP hS (⟨(bI_t ⟨k, hik, c_21, c_42⟩).symm, rfl⟩) d_C_isMarkRepeated_46
  exact lp (i + 1) 0 _ _ _ (Nat.zero_le _) (by omega) lt_0 hP hS (lv_sub hl [0, 1, 2, 3] rfl)
abbrev w_C_areEntriesRight : List Cond := .code y_C_areEntriesRight b_C_areEntriesRight 6 (some .boolean) :: ALL
abbrev rm_C_areEntriesRight : Room := { frames := 3, cells := 0, slots := 0, locals := 73 }
theorem hd_C_areEntriesRight : y_C_areEntriesRight.cls = R_C ∧ y_C_areEntriesRight.cls ≠ "java/lang/invoke/MethodHandle" ∧ y_C_areEntriesRight.cls ≠ "java/lang/invoke/VarHandle" ∧ (parseMethodDescriptor y_C_areEntriesRight.desc).map (fun d => d.parameters.length) = some 0 := by decide +kernel
set_option maxHeartbeats 4000000 in
set_option maxRecDepth 100000 in
theorem c_C_areEntriesRight (l : Launch) (D : va_G) (h : Nat → Nat) (cA : ClassId) (n tb : Nat) (A : Nat → Prop) (hn : 12 ≤ n) (hn2 : n ≤ 24) (d : Nat → BitVec 8) (j : Nat) (hj : j < 2) : Met l y_C_areEntriesRight w_C_areEntriesRight rm_C_areEntriesRight (va_Pc [.ref (h (2 + j))] (cB D h cA n tb A d)) (va_Qi (fun r v => r = bI (enR n d (cAr n j)) ∧ v = d) (cB D h cA n tb A) A) 0 0 A := by
  refine g_ofW (cc := b_C_areEntriesRight) (maxL := 6) (ret := (some .boolean)) (by decide) rfl (Nat.le_of_ble_eq_true rfl) ?_
  intro p e s m below meth c ls hx hb hml hr hlk hown hts hnm hB hl
  have hown : s.vm.findClass R_C = some m.cls := hown
  have hP := hB.1
  have hK := hB.2.1
  have hS : va_S A s.heap s.heap [] := va_S.rf
  have hl : lv_has ls 6 [(0, .ref (h (2 + j)))] := hl
  have hHd := cHd_le hn hj
  have hAr := cAr_le hn hj
  refine lv_iconst (v := nI 0) hx hb d_C_areEntriesRight_0 rfl ?_
  refine lv_istore_n (lv' := [(1, .int (nI (0))), (0, .ref (h (2 + j)))]) hx hb d_C_areEntriesRight_1 rfl hl (by decide) rfl (fun ls hl => ?_)
  have lp : ∀ (q : Nat) (i : Nat) (H : Heap) (locs : List Loc) (ls : Array Slot), (i ≤ 8) → (8 + 1 ≤ i + q) → (∀ k, k < i → enQ n d (cAr n j) k) → va_P D classes (cW h cA n (d)) H → va_S A s.heap H locs → lv_has ls 6 [(1, .int (nI (i))), (0, .ref (h (2 + j)))] → W p l e rm_C_areEntriesRight s m ([.ref (h (2 + j))] : List Value).toArray below meth c H locs 0 0 (MQ below (va_Qi (fun r v => r = bI (enR n d (cAr n j)) ∧ v = d) (cB D h cA n tb A) A) ([.ref (h (2 + j))] : List Value).toArray s 0 0 A) (F0 m 2 ls []) := by
    intro q
    induction q with
    | zero =>
      intro i H locs ls hi hq hz hP hS hl
      exact absurd hq (by omega)
    | succ q ih =>
      intro i H locs ls hi hq hz hP hS hl
      refine lv_iload_n hx hb d_C_areEntriesRight_2 rfl (lv_at hl 0 rfl) ?_
      refine lv_bipush (v := nI 8) hx hb d_C_areEntriesRight_3 rfl ?_
      refine lv_icmp_ge (tgt := 70) hx hb d_C_areEntriesRight_5 (by decide) (fun c_5 => ?_) (fun c_5 => ?_)
      · have hik : i = 8 := ge_t hi (by omega) c_5
        refine lv_iconst (v := nI 1) hx hb d_C_areEntriesRight_70 rfl ?_
        exact g_zret (v := (nI (1))) hx hb hr (rfl) hlk cW_w cX_x hB hP hS (⟨(bI_t (by rw [hik] at hz; exact hz)).symm, rfl⟩) d_C_areEntriesRight_71
      · have hik : i < 8 := ge_f (by omega) (by omega) c_5
        refine lv_aload_n hx hb d_C_areEntriesRight_8 rfl (lv_at hl 1 rfl) ?_
        refine lv_iload_n hx hb d_C_areEntriesRight_9 rfl (lv_at hl 0 rfl) ?_
        refine lv_bipush (v := nI 32) hx hb d_C_areEntriesRight_10 rfl ?_
        refine g_callVl (As := [.int (nI (i)), .int (nI (32))]) (rest := []) ⟨hx, hb, hml, hown, hts⟩ (C := R_C) (index := 76) (c_C_getLong l D h cA n tb A hn hn2 (d) (j) hj (i) (32) (by omega) (by omega)) (cwV 2 hts (gd_V m_257 m_258 m_259 m_32 m_260) rfl rfl rfl hd_C_getLong ⟨Nat.le_of_ble_eq_true rfl, Nat.le_of_ble_eq_true rfl⟩) cW_w cX_x hB hP hS (ci := 2) rfl ((2 + j)) (cW_C hj) rfl hl.1 rfl (Nat.le_of_ble_eq_true rfl) d_C_areEntriesRight_12 ⟨Nat.zero_le _, Nat.zero_le _⟩ (fun r_ v_ H locs hw hP hS => ?_)
        obtain ⟨hw1, hw2⟩ := hw; have hw1 := hw1.symm; have hw2 := hw2.symm; subst hw1; subst hw2
        refine lv_lstore_n (lv' := [(2, .long (num d (cAr n j + i * 128 + 32) 8)), (1, .int (nI (i))), (0, .ref (h (2 + j)))]) hx hb d_C_areEntriesRight_15 rfl hl (by decide) rfl (fun ls hl => ?_)
        refine lv_aload_n hx hb d_C_areEntriesRight_16 rfl (lv_at hl 2 rfl) ?_
        refine lv_iload_n hx hb d_C_areEntriesRight_17 rfl (lv_at hl 1 rfl) ?_
        refine lv_bipush (v := nI 40) hx hb d_C_areEntriesRight_18 rfl ?_
        refine g_callVl (As := [.int (nI (i)), .int (nI (40))]) (rest := []) ⟨hx, hb, hml, hown, hts⟩ (C := R_C) (index := 76) (c_C_getLong l D h cA n tb A hn hn2 (d) (j) hj (i) (40) (by omega) (by omega)) (cwV 2 hts (gd_V m_257 m_258 m_259 m_32 m_260) rfl rfl rfl hd_C_getLong ⟨Nat.le_of_ble_eq_true rfl, Nat.le_of_ble_eq_true rfl⟩) cW_w cX_x hB hP hS (ci := 2) rfl ((2 + j)) (cW_C hj) rfl hl.1 rfl (Nat.le_of_ble_eq_true rfl) d_C_areEntriesRight_20 ⟨Nat.zero_le _, Nat.zero_le _⟩ (fun r_ v_ H locs hw hP hS => ?_)
        obtain ⟨hw1, hw2⟩ := hw; have hw1 := hw1.symm; have hw2 := hw2.symm; subst hw1; subst hw2
        refine lv_lstore (lv' := [(4, .long (num d (cAr n j + i * 128 + 40) 8)), (2, .long (num d (cAr n j + i * 128 + 32) 8)), (1, .int (nI (i))), (0, .ref (h (2 + j)))]) hx hb d_C_areEntriesRight_23 hl (by decide) rfl (fun ls hl => ?_)
        refine lv_aload_n hx hb d_C_areEntriesRight_25 rfl (lv_at hl 3 rfl) ?_
        refine lv_iload_n hx hb d_C_areEntriesRight_26 rfl (lv_at hl 2 rfl) ?_
        refine g_callVi (As := [.int (nI (i))]) (rest := []) ⟨hx, hb, hml, hown, hts⟩ (C := R_C) (index := 79) (c_C_isFree l D h cA n tb A hn hn2 (d) (j) hj (i) (by omega)) (cwV 1 hts (gd_V m_265 m_266 m_267 m_32 m_268) rfl rfl rfl hd_C_isFree ⟨Nat.le_of_ble_eq_true rfl, Nat.le_of_ble_eq_true rfl⟩) cW_w cX_x hB hP hS (ci := 2) rfl ((2 + j)) (cW_C hj) rfl hl.1 rfl (Nat.le_of_ble_eq_true rfl) d_C_areEntriesRight_27 ⟨Nat.zero_le _, Nat.zero_le _⟩ (fun r_ v_ H locs hw hP hS => ?_)
        obtain ⟨hw1, hw2⟩ := hw; have hw1 := hw1.symm; have hw2 := hw2.symm; subst hw1; subst hw2
        refine lv_if_ne (tgt := 64) hx hb d_C_areEntriesRight_30 (by decide) (fun c_30 => ?_) (fun c_30 => ?_)
        · have c_30 := bI_1 c_30
          refine lv_iinc (v := (nI (i + 1))) (lv' := [(1, .int (nI (i + 1))), (4, .long (num d (cAr n j + i * 128 + 40) 8)), (2, .long (num d (cAr n j + i * 128 + 32) 8)), (0, .ref (h (2 + j)))]) hx hb d_C_areEntriesRight_64 hl (k := 2) rfl (nI_add _ _) (by decide) rfl (fun ls hl => ?_)
          refine lv_goto (tgt := 2) hx hb d_C_areEntriesRight_67 (by decide) ?_
          exact ih (i + 1) _ _ _ (by omega) (by omega) (lt_a hz (Or.inl c_30)) hP hS (lv_sub hl [0, 3] rfl)
        · have c_30 := bI_0.mp c_30
          refine lv_aload_n hx hb d_C_areEntriesRight_33 rfl (lv_at hl 3 rfl) ?_
          refine lv_lload_n hx hb d_C_areEntriesRight_34 rfl (lv_at hl 1 rfl) ?_
          refine lv_lload hx hb d_C_areEntriesRight_35 (lv_at hl 0 rfl) ?_
          refine g_callVi (As := [.long (num d (cAr n j + i * 128 + 32) 8), .long (num d (cAr n j + i * 128 + 40) 8)]) (rest := []) ⟨hx, hb, hml, hown, hts⟩ (C := R_C) (index := 83) (c_C_isUsable l D h cA n tb A hn hn2 (d) (j) hj (num d (cAr n j + i * 128 + 32) 8) (num d (cAr n j + i * 128 + 40) 8)) (cwV 2 hts (gd_V m_270 m_271 m_272 m_32 m_273) rfl rfl rfl hd_C_isUsable ⟨Nat.le_of_ble_eq_true rfl, Nat.le_of_ble_eq_true rfl⟩) cW_w cX_x hB hP hS (ci := 2) rfl ((2 + j)) (cW_C hj) rfl hl.1 rfl (Nat.le_of_ble_eq_true rfl) d_C_areEntriesRight_37 ⟨Nat.zero_le _, Nat.zero_le _⟩ (fun r_ v_ H locs hw hP hS => ?_)
          obtain ⟨hw1, hw2⟩ := hw; have hw1 := hw1.symm; have hw2 := hw2.symm; subst hw1; subst hw2
          refine lv_if_eq (tgt := 62) hx hb d_C_areEntriesRight_40 (by decide) (fun c_40 => ?_) (fun c_40 => ?_)
          · have c_40 := bI_0.mp c_40
            refine lv_iconst (v := nI 0) hx hb d_C_areEntriesRight_62 rfl ?_
            exact g_zret (v := (nI (0))) hx hb hr (rfl) hlk cW_w cX_x hB hP hS (⟨(bI_f (fun w => (w i hik).elim c_30 (fun w => c_40 w.1))).symm, rfl⟩) d_C_areEntriesRight_63
          · have c_40 := bI_1 c_40
            refine lv_aload_n hx hb d_C_areEntriesRight_43 rfl (lv_at hl 3 rfl) ?_
            refine lv_lload_n hx hb d_C_areEntriesRight_44 rfl (lv_at hl 1 rfl) ?_
            refine lv_lload hx hb d_C_areEntriesRight_45 (lv_at hl 0 rfl) ?_
            refine lv_iload_n hx hb d_C_areEntriesRight_47 rfl (lv_at hl 2 rfl) ?_
            refine g_callVi (As := [.long (num d (cAr n j + i * 128 + 32) 8), .long (num d (cAr n j + i * 128 + 40) 8), .int (nI (i))]) (rest := []) ⟨hx, hb, hml, hown, hts⟩ (C := R_C) (index := 87) (c_C_isTaken l D h cA n tb A hn hn2 (d) (j) hj (num d (cAr n j + i * 128 + 32) 8) (num d (cAr n j + i * 128 + 40) 8) ((nI (i)))) (cwV 3 hts (gd_V m_274 m_275 m_276 m_32 m_277) rfl rfl rfl hd_C_isTaken ⟨Nat.le_of_ble_eq_true rfl, Nat.le_of_ble_eq_true rfl⟩) cW_w cX_x hB hP hS (ci := 2) rfl ((2 + j)) (cW_C hj) rfl hl.1 rfl (Nat.le_of_ble_eq_true rfl) d_C_areEntriesRight_48 ⟨Nat.zero_le _, Nat.zero_le _⟩ (fun r_ v_ H locs hw hP hS => ?_)
            obtain ⟨hw1, hw2⟩ := hw; have hw1 := hw1.symm; have hw2 := hw2.symm; subst hw1; subst hw2
            refine lv_if_ne (tgt := 62) hx hb d_C_areEntriesRight_51 (by decide) (fun c_51 => ?_) (fun c_51 => ?_)
            · have c_51 := bI_1 c_51
              refine lv_iconst (v := nI 0) hx hb d_C_areEntriesRight_62 rfl ?_
              exact g_zret (v := (nI (0))) hx hb hr (rfl) hlk cW_w cX_x hB hP hS (⟨(bI_f (fun w => (w i hik).elim c_30 (fun w => w.2.1 c_51))).symm, rfl⟩) d_C_areEntriesRight_63
            · have c_51 := bI_0.mp c_51
              refine lv_aload_n hx hb d_C_areEntriesRight_54 rfl (lv_at hl 3 rfl) ?_
              refine lv_iload_n hx hb d_C_areEntriesRight_55 rfl (lv_at hl 2 rfl) ?_
              refine g_callVi (As := [.int (nI (i))]) (rest := []) ⟨hx, hb, hml, hown, hts⟩ (C := R_C) (index := 91) (c_C_isMarkRepeated l D h cA n tb A hn hn2 (d) (j) hj (i) (by omega)) (cwV 1 hts (gd_V m_278 m_280 m_12 m_32 m_281) rfl rfl rfl hd_C_isMarkRepeated ⟨Nat.le_of_ble_eq_true rfl, Nat.le_of_ble_eq_true rfl⟩) cW_w cX_x hB hP hS (ci := 2) rfl ((2 + j)) (cW_C hj) rfl hl.1 rfl (Nat.le_of_ble_eq_true rfl) d_C_areEntriesRight_56 ⟨Nat.zero_le _, Nat.zero_le _⟩ (fun r_ v_ H locs hw hP hS => ?_)
              obtain ⟨hw1, hw2⟩ := hw; have hw1 := hw1.symm; have hw2 := hw2.symm; subst hw1; subst hw2
              refine lv_if_eq (tgt := 64) hx hb d_C_areEntriesRight_59 (by decide) (fun c_59 => ?_) (fun c_59 => ?_)
              · have c_59 := bI_0.mp c_59
                refine lv_iinc (v := (nI (i + 1))) (lv' := [(1, .int (nI (i + 1))), (4, .long (num d (cAr n j + i * 128 + 40) 8)), (2, .long (num d (cAr n j + i * 128 + 32) 8)), (0, .ref (h (2 + j)))]) hx hb d_C_areEntriesRight_64 hl (k := 2) rfl (nI_add _ _) (by decide) rfl (fun ls hl => ?_)
                refine lv_goto (tgt := 2) hx hb d_C_areEntriesRight_67 (by decide) ?_
                exact ih (i + 1) _ _ _ (by omega) (by omega) (lt_a hz (Or.inr ⟨c_40, c_51, c_59⟩)) hP hS (lv_sub hl [0, 3] rfl)
              · have c_59 := bI_1 c_59
                refine lv_iconst (v := nI 0) hx hb d_C_areEntriesRight_62 rfl ?_
                exact g_zret (v := (nI (0))) hx hb hr (rfl) hlk cW_w cX_x hB hP hS (⟨(bI_f (fun w => (w i hik).elim c_30 (fun w => w.2.2 c_59))).symm, rfl⟩) d_C_areEntriesRight_63
  exact lp (8 + 1) 0 _ _ _ (Nat.zero_le _) (by omega) lt_0 hP hS (lv_sub hl [0, 1] rfl)
abbrev w_C_firstFault : List Cond := .code y_C_firstFault b_C_firstFault 1 (some .int) :: ALL
abbrev rm_C_firstFault : Room := { frames := 4, cells := 0, slots := 0, locals := 98 }
theorem hd_C_firstFault : y_C_firstFault.cls = R_C ∧ y_C_firstFault.cls ≠ "java/lang/invoke/MethodHandle" ∧ y_C_firstFault.cls ≠ "java/lang/invoke/VarHandle" ∧ (parseMethodDescriptor y_C_firstFault.desc).map (fun d => d.parameters.length) = some 0 := by decide +kernel
set_option maxHeartbeats 4000000 in
set_option maxRecDepth 100000 in
theorem c_C_firstFault (l : Launch) (D : va_G) (h : Nat → Nat) (cA : ClassId) (n tb : Nat) (A : Nat → Prop) (hn : 12 ≤ n) (hn2 : n ≤ 24) (d : Nat → BitVec 8) (j : Nat) (hj : j < 2) : Met l y_C_firstFault w_C_firstFault rm_C_firstFault (va_Pc [.ref (h (2 + j))] (cB D h cA n tb A d)) (va_Qi (fun r v => r = fft n j d ∧ v = d) (cB D h cA n tb A) A) 0 0 A := by
  refine g_ofW (cc := b_C_firstFault) (maxL := 1) (ret := (some .int)) (by decide) rfl (Nat.le_of_ble_eq_true rfl) ?_
  intro p e s m below meth c ls hx hb hml hr hlk hown hts hnm hB hl
  have hown : s.vm.findClass R_C = some m.cls := hown
  have hP := hB.1
  have hK := hB.2.1
  have hS : va_S A s.heap s.heap [] := va_S.rf
  have hl : lv_has ls 1 [(0, .ref (h (2 + j)))] := hl
  have hHd := cHd_le hn hj
  have hAr := cAr_le hn hj
  refine lv_aload_n hx hb d_C_firstFault_0 rfl (lv_at hl 0 rfl) ?_
  refine va_get (D := D) (ci := 2) (v := .ref (h 1)) (C := R_C) (T := F_C) (N := 8) hx hb hts (fun w h => .tail _ (fi_C w h)) hown hK hP (2 + j) (cW_C hj) rfl 1 (by decide) (hts _ (.tail _ m_62)) (fun _ h9 => h9) rfl d_C_firstFault_1 ?_
  refine lv_aload_n hx hb d_C_firstFault_4 rfl (lv_at hl 0 rfl) ?_
  refine va_get (D := D) (ci := 2) (v := .int (nI (cHd n j))) (C := R_C) (T := F_C) (N := 8) hx hb hts (fun w h => .tail _ (fi_C w h)) hown hK hP (2 + j) (cW_C hj) rfl 6 (by decide) (hts _ (.tail _ m_67)) (fun _ h9 => h9) rfl d_C_firstFault_5 ?_
  refine lv_iconst (v := nI 0) hx hb d_C_firstFault_8 rfl ?_
  refine lv_iaddN hx hb d_C_firstFault_9 ?_
  refine lv_bipush (v := nI 8) hx hb d_C_firstFault_10 rfl ?_
  refine g_callVl (As := [.int (nI ((cHd n j) + 0)), .int (nI (8))]) (rest := []) ⟨hx, hb, hml, hown, hts⟩ (C := R_B) (index := 41) (c_B_number l D h cA n tb A hn hn2 (d) ((cHd n j) + 0) (8) (by omega)) (cwV 2 hts (gd_V m_169 m_170 m_171 m_31 m_172) rfl rfl rfl hd_B_number ⟨Nat.le_of_ble_eq_true rfl, Nat.le_of_ble_eq_true rfl⟩) cW_w cX_x hB hP hS (ci := 1) rfl (1) rfl rfl hl.1 rfl (Nat.le_of_ble_eq_true rfl) d_C_firstFault_12 ⟨Nat.zero_le _, Nat.zero_le _⟩ (fun r_ v_ H locs hw hP hS => ?_)
  obtain ⟨hw1, hw2⟩ := hw; have hw1 := hw1.symm; have hw2 := hw2.symm; subst hw1; subst hw2
  refine lv_ldc2 (v := 6075990659671082565) hx hb hown (hts _ (.tail _ m_184)) d_C_firstFault_15 ?_
  refine W.lcmp hx hb d_C_firstFault_18 ?_
  refine lv_if_eq (tgt := 24) hx hb d_C_firstFault_19 (by decide) (fun c_19 => ?_) (fun c_19 => ?_)
  · have c_19 := (lg_cmp_eq _ _).mp c_19
    refine lv_aload_n hx hb d_C_firstFault_24 rfl (lv_at hl 0 rfl) ?_
    refine g_callVi (As := []) (rest := []) ⟨hx, hb, hml, hown, hts⟩ (C := R_C) (index := 49) (c_C_isKindRight l D h cA n tb A hn hn2 (d) (j) hj) (cwV 0 hts (gd_V m_245 m_247 m_8 m_32 m_248) rfl rfl rfl hd_C_isKindRight ⟨Nat.le_of_ble_eq_true rfl, Nat.le_of_ble_eq_true rfl⟩) cW_w cX_x hB hP hS (ci := 2) rfl ((2 + j)) (cW_C hj) rfl hl.1 rfl (Nat.le_of_ble_eq_true rfl) d_C_firstFault_25 ⟨Nat.zero_le _, Nat.zero_le _⟩ (fun r_ v_ H locs hw hP hS => ?_)
    obtain ⟨hw1, hw2⟩ := hw; have hw1 := hw1.symm; have hw2 := hw2.symm; subst hw1; subst hw2
    refine lv_if_ne (tgt := 33) hx hb d_C_firstFault_28 (by decide) (fun c_28 => ?_) (fun c_28 => ?_)
    · have c_28 := bI_1 c_28
      refine lv_aload_n hx hb d_C_firstFault_33 rfl (lv_at hl 0 rfl) ?_
      refine va_get (D := D) (ci := 2) (v := .ref (h 1)) (C := R_C) (T := F_C) (N := 8) hx hb hts (fun w h => .tail _ (fi_C w h)) hown hK hP (2 + j) (cW_C hj) rfl 1 (by decide) (hts _ (.tail _ m_62)) (fun _ h9 => h9) rfl d_C_firstFault_34 ?_
      refine lv_aload_n hx hb d_C_firstFault_37 rfl (lv_at hl 0 rfl) ?_
      refine va_get (D := D) (ci := 2) (v := .int (nI (cHd n j))) (C := R_C) (T := F_C) (N := 8) hx hb hts (fun w h => .tail _ (fi_C w h)) hown hK hP (2 + j) (cW_C hj) rfl 6 (by decide) (hts _ (.tail _ m_67)) (fun _ h9 => h9) rfl d_C_firstFault_38 ?_
      refine lv_bipush (v := nI 16) hx hb d_C_firstFault_41 rfl ?_
      refine lv_iaddN hx hb d_C_firstFault_43 ?_
      refine lv_iconst (v := nI 4) hx hb d_C_firstFault_44 rfl ?_
      refine g_callVl (As := [.int (nI ((cHd n j) + 16)), .int (nI (4))]) (rest := []) ⟨hx, hb, hml, hown, hts⟩ (C := R_B) (index := 41) (c_B_number l D h cA n tb A hn hn2 (d) ((cHd n j) + 16) (4) (by omega)) (cwV 2 hts (gd_V m_169 m_170 m_171 m_31 m_172) rfl rfl rfl hd_B_number ⟨Nat.le_of_ble_eq_true rfl, Nat.le_of_ble_eq_true rfl⟩) cW_w cX_x hB hP hS (ci := 1) rfl (1) rfl rfl hl.1 rfl (Nat.le_of_ble_eq_true rfl) d_C_firstFault_45 ⟨Nat.zero_le _, Nat.zero_le _⟩ (fun r_ v_ H locs hw hP hS => ?_)
      obtain ⟨hw1, hw2⟩ := hw; have hw1 := hw1.symm; have hw2 := hw2.symm; subst hw1; subst hw2
      refine lv_l2i hx hb d_C_firstFault_48 rfl ?_
      refine lv_aload_n hx hb d_C_firstFault_49 rfl (lv_at hl 0 rfl) ?_
      refine g_callVi (As := []) (rest := [.int ((num d ((cHd n j) + 16) 4).toInt32)]) ⟨hx, hb, hml, hown, hts⟩ (C := R_C) (index := 53) (c_C_headerSum l D h cA n tb A hn hn2 (d) (j) hj) (cwV 0 hts (gd_V m_211 m_213 m_6 m_32 m_214) rfl rfl rfl hd_C_headerSum ⟨Nat.le_of_ble_eq_true rfl, Nat.le_of_ble_eq_true rfl⟩) cW_w cX_x hB hP hS (ci := 2) rfl ((2 + j)) (cW_C hj) rfl hl.1 rfl (Nat.le_of_ble_eq_true rfl) d_C_firstFault_50 ⟨Nat.zero_le _, Nat.zero_le _⟩ (fun r_ v_ H locs hw hP hS => ?_)
      obtain ⟨hw1, hw2⟩ := hw; have hw1 := hw1.symm; have hw2 := hw2.symm; subst hw1; subst hw2
      refine lv_icmp_eq (tgt := 58) hx hb d_C_firstFault_53 (by decide) (fun c_53 => ?_) (fun c_53 => ?_)
      · refine lv_aload_n hx hb d_C_firstFault_58 rfl (lv_at hl 0 rfl) ?_
        refine va_get (D := D) (ci := 2) (v := .ref (h 1)) (C := R_C) (T := F_C) (N := 8) hx hb hts (fun w h => .tail _ (fi_C w h)) hown hK hP (2 + j) (cW_C hj) rfl 1 (by decide) (hts _ (.tail _ m_62)) (fun _ h9 => h9) rfl d_C_firstFault_59 ?_
        refine lv_aload_n hx hb d_C_firstFault_62 rfl (lv_at hl 0 rfl) ?_
        refine va_get (D := D) (ci := 2) (v := .int (nI (cHd n j))) (C := R_C) (T := F_C) (N := 8) hx hb hts (fun w h => .tail _ (fi_C w h)) hown hK hP (2 + j) (cW_C hj) rfl 6 (by decide) (hts _ (.tail _ m_67)) (fun _ h9 => h9) rfl d_C_firstFault_63 ?_
        refine lv_bipush (v := nI 24) hx hb d_C_firstFault_66 rfl ?_
        refine lv_iaddN hx hb d_C_firstFault_68 ?_
        refine lv_bipush (v := nI 8) hx hb d_C_firstFault_69 rfl ?_
        refine g_callVl (As := [.int (nI ((cHd n j) + 24)), .int (nI (8))]) (rest := []) ⟨hx, hb, hml, hown, hts⟩ (C := R_B) (index := 41) (c_B_number l D h cA n tb A hn hn2 (d) ((cHd n j) + 24) (8) (by omega)) (cwV 2 hts (gd_V m_169 m_170 m_171 m_31 m_172) rfl rfl rfl hd_B_number ⟨Nat.le_of_ble_eq_true rfl, Nat.le_of_ble_eq_true rfl⟩) cW_w cX_x hB hP hS (ci := 1) rfl (1) rfl rfl hl.1 rfl (Nat.le_of_ble_eq_true rfl) d_C_firstFault_71 ⟨Nat.zero_le _, Nat.zero_le _⟩ (fun r_ v_ H locs hw hP hS => ?_)
        obtain ⟨hw1, hw2⟩ := hw; have hw1 := hw1.symm; have hw2 := hw2.symm; subst hw1; subst hw2
        refine lv_aload_n hx hb d_C_firstFault_74 rfl (lv_at hl 0 rfl) ?_
        refine va_get (D := D) (ci := 2) (v := .int (nI (cOwn n j))) (C := R_C) (T := F_C) (N := 8) hx hb hts (fun w h => .tail _ (fi_C w h)) hown hK hP (2 + j) (cW_C hj) rfl 2 (by decide) (hts _ (.tail _ m_63)) (fun _ h9 => h9) rfl d_C_firstFault_75 ?_
        refine lv_i2l hx hb d_C_firstFault_78 rfl ?_
        refine W.lcmp hx hb d_C_firstFault_79 ?_
        refine lv_if_eq (tgt := 85) hx hb d_C_firstFault_80 (by decide) (fun c_80 => ?_) (fun c_80 => ?_)
        · have c_80 := (lg_cmp_eq _ _).mp c_80
          refine lv_aload_n hx hb d_C_firstFault_85 rfl (lv_at hl 0 rfl) ?_
          refine g_callVi (As := []) (rest := []) ⟨hx, hb, hml, hown, hts⟩ (C := R_C) (index := 57) (c_C_isLayoutRight l D h cA n tb A hn hn2 (d) (j) hj) (cwV 0 hts (gd_V m_249 m_251 m_9 m_32 m_252) rfl rfl rfl hd_C_isLayoutRight ⟨Nat.le_of_ble_eq_true rfl, Nat.le_of_ble_eq_true rfl⟩) cW_w cX_x hB hP hS (ci := 2) rfl ((2 + j)) (cW_C hj) rfl hl.1 rfl (Nat.le_of_ble_eq_true rfl) d_C_firstFault_86 ⟨Nat.zero_le _, Nat.zero_le _⟩ (fun r_ v_ H locs hw hP hS => ?_)
          obtain ⟨hw1, hw2⟩ := hw; have hw1 := hw1.symm; have hw2 := hw2.symm; subst hw1; subst hw2
          refine lv_if_ne (tgt := 94) hx hb d_C_firstFault_89 (by decide) (fun c_89 => ?_) (fun c_89 => ?_)
          · have c_89 := bI_1 c_89
            refine lv_aload_n hx hb d_C_firstFault_94 rfl (lv_at hl 0 rfl) ?_
            refine va_get (D := D) (ci := 2) (v := .ref (h 1)) (C := R_C) (T := F_C) (N := 8) hx hb hts (fun w h => .tail _ (fi_C w h)) hown hK hP (2 + j) (cW_C hj) rfl 1 (by decide) (hts _ (.tail _ m_62)) (fun _ h9 => h9) rfl d_C_firstFault_95 ?_
            refine lv_aload_n hx hb d_C_firstFault_98 rfl (lv_at hl 0 rfl) ?_
            refine va_get (D := D) (ci := 2) (v := .int (nI (cHd n j))) (C := R_C) (T := F_C) (N := 8) hx hb hts (fun w h => .tail _ (fi_C w h)) hown hK hP (2 + j) (cW_C hj) rfl 6 (by decide) (hts _ (.tail _ m_67)) (fun _ h9 => h9) rfl d_C_firstFault_99 ?_
            refine lv_bipush (v := nI 88) hx hb d_C_firstFault_102 rfl ?_
            refine lv_iaddN hx hb d_C_firstFault_104 ?_
            refine lv_iconst (v := nI 4) hx hb d_C_firstFault_105 rfl ?_
            refine g_callVl (As := [.int (nI ((cHd n j) + 88)), .int (nI (4))]) (rest := []) ⟨hx, hb, hml, hown, hts⟩ (C := R_B) (index := 41) (c_B_number l D h cA n tb A hn hn2 (d) ((cHd n j) + 88) (4) (by omega)) (cwV 2 hts (gd_V m_169 m_170 m_171 m_31 m_172) rfl rfl rfl hd_B_number ⟨Nat.le_of_ble_eq_true rfl, Nat.le_of_ble_eq_true rfl⟩) cW_w cX_x hB hP hS (ci := 1) rfl (1) rfl rfl hl.1 rfl (Nat.le_of_ble_eq_true rfl) d_C_firstFault_106 ⟨Nat.zero_le _, Nat.zero_le _⟩ (fun r_ v_ H locs hw hP hS => ?_)
            obtain ⟨hw1, hw2⟩ := hw; have hw1 := hw1.symm; have hw2 := hw2.symm; subst hw1; subst hw2
            refine lv_l2i hx hb d_C_firstFault_109 rfl ?_
            refine lv_aload_n hx hb d_C_firstFault_110 rfl (lv_at hl 0 rfl) ?_
            refine g_callVi (As := []) (rest := [.int ((num d ((cHd n j) + 88) 4).toInt32)]) ⟨hx, hb, hml, hown, hts⟩ (C := R_C) (index := 60) (c_C_arraySum l D h cA n tb A hn hn2 (d) (j) hj) (cwV 0 hts (gd_V m_194 m_196 m_4 m_32 m_197) rfl rfl rfl hd_C_arraySum ⟨Nat.le_of_ble_eq_true rfl, Nat.le_of_ble_eq_true rfl⟩) cW_w cX_x hB hP hS (ci := 2) rfl ((2 + j)) (cW_C hj) rfl hl.1 rfl (Nat.le_of_ble_eq_true rfl) d_C_firstFault_111 ⟨Nat.zero_le _, Nat.zero_le _⟩ (fun r_ v_ H locs hw hP hS => ?_)
            obtain ⟨hw1, hw2⟩ := hw; have hw1 := hw1.symm; have hw2 := hw2.symm; subst hw1; subst hw2
            refine lv_icmp_eq (tgt := 120) hx hb d_C_firstFault_114 (by decide) (fun c_114 => ?_) (fun c_114 => ?_)
            · refine lv_aload_n hx hb d_C_firstFault_120 rfl (lv_at hl 0 rfl) ?_
              refine g_callVi (As := []) (rest := []) ⟨hx, hb, hml, hown, hts⟩ (C := R_C) (index := 63) (c_C_areEntriesRight l D h cA n tb A hn hn2 (d) (j) hj) (cwV 0 hts (gd_V m_253 m_255 m_10 m_32 m_256) rfl rfl rfl hd_C_areEntriesRight ⟨Nat.le_of_ble_eq_true rfl, Nat.le_of_ble_eq_true rfl⟩) cW_w cX_x hB hP hS (ci := 2) rfl ((2 + j)) (cW_C hj) rfl hl.1 rfl (Nat.le_of_ble_eq_true rfl) d_C_firstFault_121 ⟨Nat.zero_le _, Nat.zero_le _⟩ (fun r_ v_ H locs hw hP hS => ?_)
              obtain ⟨hw1, hw2⟩ := hw; have hw1 := hw1.symm; have hw2 := hw2.symm; subst hw1; subst hw2
              refine lv_if_eq (tgt := 131) hx hb d_C_firstFault_124 (by decide) (fun c_124 => ?_) (fun c_124 => ?_)
              · have c_124 := bI_0.mp c_124
                refine lv_bipush (v := nI 7) hx hb d_C_firstFault_131 rfl ?_
                exact g_iret (v := (nI (7))) hx hb hr hlk cW_w cX_x hB hP hS (⟨((cI_t c_19).trans ((cI_t c_28).trans ((cI_t c_53).trans ((cI_t c_80).trans ((cI_t c_89).trans ((cI_t c_114).trans (cI_f c_124))))))).symm, rfl⟩) d_C_firstFault_133
              · have c_124 := bI_1 c_124
                refine lv_iconst (v := nI 0) hx hb d_C_firstFault_127 rfl ?_
                refine lv_goto (tgt := 133) hx hb d_C_firstFault_128 (by decide) ?_
                exact g_iret (v := (nI (0))) hx hb hr hlk cW_w cX_x hB hP hS (⟨((cI_t c_19).trans ((cI_t c_28).trans ((cI_t c_53).trans ((cI_t c_80).trans ((cI_t c_89).trans ((cI_t c_114).trans (cI_t c_124))))))).symm, rfl⟩) d_C_firstFault_133
            · refine lv_bipush (v := nI 6) hx hb d_C_firstFault_117 rfl ?_
              exact g_iret (v := (nI (6))) hx hb hr hlk cW_w cX_x hB hP hS (⟨((cI_t c_19).trans ((cI_t c_28).trans ((cI_t c_53).trans ((cI_t c_80).trans ((cI_t c_89).trans (cI_f c_114)))))).symm, rfl⟩) d_C_firstFault_119
          · have c_89 := bI_0.mp c_89
            refine lv_iconst (v := nI 5) hx hb d_C_firstFault_92 rfl ?_
            exact g_iret (v := (nI (5))) hx hb hr hlk cW_w cX_x hB hP hS (⟨((cI_t c_19).trans ((cI_t c_28).trans ((cI_t c_53).trans ((cI_t c_80).trans (cI_f c_89))))).symm, rfl⟩) d_C_firstFault_93
        · have c_80 := fun z => c_80 ((lg_cmp_eq _ _).mpr z)
          refine lv_iconst (v := nI 4) hx hb d_C_firstFault_83 rfl ?_
          exact g_iret (v := (nI (4))) hx hb hr hlk cW_w cX_x hB hP hS (⟨((cI_t c_19).trans ((cI_t c_28).trans ((cI_t c_53).trans (cI_f c_80)))).symm, rfl⟩) d_C_firstFault_84
      · refine lv_iconst (v := nI 3) hx hb d_C_firstFault_56 rfl ?_
        exact g_iret (v := (nI (3))) hx hb hr hlk cW_w cX_x hB hP hS (⟨((cI_t c_19).trans ((cI_t c_28).trans (cI_f c_53))).symm, rfl⟩) d_C_firstFault_57
    · have c_28 := bI_0.mp c_28
      refine lv_iconst (v := nI 2) hx hb d_C_firstFault_31 rfl ?_
      exact g_iret (v := (nI (2))) hx hb hr hlk cW_w cX_x hB hP hS (⟨((cI_t c_19).trans (cI_f c_28)).symm, rfl⟩) d_C_firstFault_32
  · have c_19 := fun z => c_19 ((lg_cmp_eq _ _).mpr z)
    refine lv_iconst (v := nI 1) hx hb d_C_firstFault_22 rfl ?_
    exact g_iret (v := (nI (1))) hx hb hr hlk cW_w cX_x hB hP hS (⟨(cI_f c_19).symm, rfl⟩) d_C_firstFault_23
