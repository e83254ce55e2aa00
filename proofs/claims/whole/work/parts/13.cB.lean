abbrev w_B_byteAt : List Cond := .code y_B_byteAt b_B_byteAt 2 (some .int) :: ALL
abbrev rm_B_byteAt : Room := { frames := 0, cells := 0, slots := 0, locals := 0 }
theorem hd_B_byteAt : y_B_byteAt.cls = R_B ∧ y_B_byteAt.cls ≠ "java/lang/invoke/MethodHandle" ∧ y_B_byteAt.cls ≠ "java/lang/invoke/VarHandle" ∧ (parseMethodDescriptor y_B_byteAt.desc).map (fun d => d.parameters.length) = some 1 := by decide +kernel
set_option maxHeartbeats 4000000 in
set_option maxRecDepth 100000 in
theorem c_B_byteAt (l : Launch) (D : va_G) (h : Nat → Nat) (cA : ClassId) (n tb : Nat) (A : Nat → Prop) (hn : 12 ≤ n) (hn2 : n ≤ 24) (d : Nat → BitVec 8) (a : Nat) (ha : a < n * 512) : Met l y_B_byteAt w_B_byteAt rm_B_byteAt (va_Pc [.ref (h 1), .int (nI (a))] (cB D h cA n tb A d)) (va_Qi (fun r v => r = zx (d a) ∧ v = d) (cB D h cA n tb A) A) 0 0 A := by
  refine g_ofW (cc := b_B_byteAt) (maxL := 2) (ret := (some .int)) (by decide) rfl (Nat.le_of_ble_eq_true rfl) ?_
  intro p e s m below meth c ls hx hb hml hr hlk hown hts hnm hB hl
  have hown : s.vm.findClass R_B = some m.cls := hown
  have hP := hB.1
  have hK := hB.2.1
  have hS : va_S A s.heap s.heap [] := va_S.rf
  have hl : lv_has ls 2 [(0, .ref (h 1)), (1, .int (nI (a)))] := hl
  refine lv_aload_n hx hb d_B_byteAt_0 rfl (lv_at hl 0 rfl) ?_
  refine va_get (D := D) (ci := 1) (v := .ref (h 4)) (C := R_B) (T := F_B) (N := 1) hx hb hts (fun w h => .tail _ (fi_B w h)) hown hK hP 1 rfl rfl 0 (by decide) (hts _ (.tail _ m_49)) (fun _ h9 => h9) rfl d_B_byteAt_1 ?_
  refine lv_iload_n hx hb d_B_byteAt_4 rfl (lv_at hl 1 rfl) ?_
  refine c_bald hx hb hB hP (a := a) (by omega) hn2 d_B_byteAt_5 ?_
  refine lv_sipush (v := nI 255) hx hb d_B_byteAt_6 rfl ?_
  refine lv_iand hx hb d_B_byteAt_9 ?_
  exact g_iret (v := ((sx (d a)) &&& (nI (255)))) hx hb hr hlk cW_w cX_x hB hP hS (⟨sx_and _, rfl⟩) d_B_byteAt_10
abbrev w_B_number : List Cond := .code y_B_number b_B_number 6 (some .long) :: ALL
abbrev rm_B_number : Room := { frames := 0, cells := 0, slots := 0, locals := 0 }
theorem hd_B_number : y_B_number.cls = R_B ∧ y_B_number.cls ≠ "java/lang/invoke/MethodHandle" ∧ y_B_number.cls ≠ "java/lang/invoke/VarHandle" ∧ (parseMethodDescriptor y_B_number.desc).map (fun d => d.parameters.length) = some 2 := by decide +kernel
set_option maxHeartbeats 4000000 in
set_option maxRecDepth 100000 in
theorem c_B_number (l : Launch) (D : va_G) (h : Nat → Nat) (cA : ClassId) (n tb : Nat) (A : Nat → Prop) (hn : 12 ≤ n) (hn2 : n ≤ 24) (d : Nat → BitVec 8) (a k : Nat) (h1 : a + k ≤ n * 512) : Met l y_B_number w_B_number rm_B_number (va_Pc [.ref (h 1), .int (nI (a)), .int (nI (k))] (cB D h cA n tb A d)) (va_Ql (fun r v => r = num d a k ∧ v = d) (cB D h cA n tb A) A) 0 0 A := by
  refine g_ofW (cc := b_B_number) (maxL := 6) (ret := (some .long)) (by decide) rfl (Nat.le_of_ble_eq_true rfl) ?_
  intro p e s m below meth c ls hx hb hml hr hlk hown hts hnm hB hl
  have hown : s.vm.findClass R_B = some m.cls := hown
  have hP := hB.1
  have hK := hB.2.1
  have hS : va_S A s.heap s.heap [] := va_S.rf
  have hl : lv_has ls 6 [(0, .ref (h 1)), (1, .int (nI (a))), (2, .int (nI (k)))] := hl
  refine lv_lconst (v := 0) hx hb d_B_number_0 rfl ?_
  refine lv_lstore_n (lv' := [(3, .long (0)), (0, .ref (h 1)), (1, .int (nI (a))), (2, .int (nI (k)))]) hx hb d_B_number_1 rfl hl (by decide) rfl (fun ls hl => ?_)
  refine lv_iload_n hx hb d_B_number_2 rfl (lv_at hl 3 rfl) ?_
  refine lv_iconst (v := nI 1) hx hb d_B_number_3 rfl ?_
  refine lv_isub hx hb d_B_number_4 ?_
  refine lv_istore (lv' := [(5, .int ((nI (k)) - (nI (1)))), (3, .long (0)), (0, .ref (h 1)), (1, .int (nI (a))), (2, .int (nI (k)))]) hx hb d_B_number_5 hl (by decide) rfl (fun ls hl => ?_)
  have lp : ∀ (q : Nat) (i : Nat) (x : Int64) (H : Heap) (locs : List Loc) (ls : Array Slot), (i ≤ k) → (i + 1 ≤ q) → (x = num d (a + i) (k - i)) → va_P D classes (cW h cA n (d)) H → va_S A s.heap H locs → lv_has ls 6 [(5, .int (nI i - nI 1)), (3, .long (x)), (0, .ref (h 1)), (1, .int (nI (a))), (2, .int (nI (k)))] → W p l e rm_B_number s m ([.ref (h 1), .int (nI (a)), .int (nI (k))] : List Value).toArray below meth c H locs 0 0 (MQ below (va_Ql (fun r v => r = num d a k ∧ v = d) (cB D h cA n tb A) A) ([.ref (h 1), .int (nI (a)), .int (nI (k))] : List Value).toArray s 0 0 A) (F0 m 7 ls []) := by
    intro q
    induction q with
    | zero =>
      intro i x H locs ls hi hq hv hP hS hl
      exact absurd hq (by omega)
    | succ q ih =>
      intro i x H locs ls hi hq hv hP hS hl
      refine lv_iload hx hb d_B_number_7 (lv_at hl 0 rfl) ?_
      refine lv_if_lt (tgt := 38) hx hb d_B_number_9 (by decide) (fun c_9 => ?_) (fun c_9 => ?_)
      · have h0 : i = 0 := dn_t (by omega) c_9
        refine lv_lload_n hx hb d_B_number_38 rfl (lv_at hl 1 rfl) ?_
        exact g_lret (v := (x)) hx hb hr hlk cW_w cX_x hB hP hS (⟨by rw [hv, h0]; rfl, rfl⟩) d_B_number_39
      · obtain ⟨z, rfl⟩ := dn_f c_9
        rw [show nI (z + 1) - nI 1 = nI z from nI_pred z] at hl
        refine lv_lload_n hx hb d_B_number_12 rfl (lv_at hl 1 rfl) ?_
        refine lv_bipush (v := nI 8) hx hb d_B_number_13 rfl ?_
        refine lv_lshl hx hb d_B_number_15 rfl ?_
        refine lv_aload_n hx hb d_B_number_16 rfl (lv_at hl 2 rfl) ?_
        refine va_get (D := D) (ci := 1) (v := .ref (h 4)) (C := R_B) (T := F_B) (N := 1) hx hb hts (fun w h => .tail _ (fi_B w h)) hown hK hP 1 rfl rfl 0 (by decide) (hts _ (.tail _ m_49)) (fun _ h9 => h9) rfl d_B_number_17 ?_
        refine lv_iload_n hx hb d_B_number_20 rfl (lv_at hl 3 rfl) ?_
        refine lv_iload hx hb d_B_number_21 (lv_at hl 0 rfl) ?_
        refine lv_iaddN hx hb d_B_number_23 ?_
        refine c_bald hx hb hB hP (a := a + z) (by omega) hn2 d_B_number_24 ?_
        refine lv_sipush (v := nI 255) hx hb d_B_number_25 rfl ?_
        refine lv_iand hx hb d_B_number_28 ?_
        refine lv_i2l hx hb d_B_number_29 rfl ?_
        refine lv_lor hx hb d_B_number_30 ?_
        refine lv_lstore_n (lv' := [(3, .long (((x) <<< ((nI (8)).toInt64 &&& 63)) ||| (((sx (d (a + z))) &&& (nI (255))).toInt64))), (5, .int (nI (z))), (0, .ref (h 1)), (1, .int (nI (a))), (2, .int (nI (k)))]) hx hb d_B_number_31 rfl hl (by decide) rfl (fun ls hl => ?_)
        refine lv_iinc (v := (nI z - nI 1)) (lv' := [(5, .int (nI z - nI 1)), (3, .long (((x) <<< ((nI (8)).toInt64 &&& 63)) ||| (((sx (d (a + z))) &&& (nI (255))).toInt64))), (0, .ref (h 1)), (1, .int (nI (a))), (2, .int (nI (k)))]) hx hb d_B_number_32 hl (k := 1) rfl (nI_m1 _) (by decide) rfl (fun ls hl => ?_)
        refine lv_goto (tgt := 7) hx hb d_B_number_35 (by decide) ?_
        exact ih z _ _ _ _ (by omega) (by omega) (by rw [hv, sx_and]; exact num_step hi) hP hS (lv_sub hl [0, 1, 2, 3, 4] rfl)
  exact lp (k + 1) k 0 _ _ _ (Nat.le_refl _) (Nat.le_refl _) (by rw [Nat.sub_self]; rfl) hP hS (lv_sub hl [0, 1, 2, 3, 4] rfl)
abbrev w_B_setNumber : List Cond := .code y_B_setNumber b_B_setNumber 6 none :: ALL
abbrev rm_B_setNumber : Room := { frames := 0, cells := 0, slots := 0, locals := 0 }
theorem hd_B_setNumber : y_B_setNumber.cls = R_B ∧ y_B_setNumber.cls ≠ "java/lang/invoke/MethodHandle" ∧ y_B_setNumber.cls ≠ "java/lang/invoke/VarHandle" ∧ (parseMethodDescriptor y_B_setNumber.desc).map (fun d => d.parameters.length) = some 3 := by decide +kernel
set_option maxHeartbeats 4000000 in
set_option maxRecDepth 100000 in
theorem c_B_setNumber (l : Launch) (D : va_G) (h : Nat → Nat) (cA : ClassId) (n tb : Nat) (A : Nat → Prop) (hn : 12 ≤ n) (hn2 : n ≤ 24) (d : Nat → BitVec 8) (a k : Nat) (x : Int64) (h1 : a + k ≤ n * 512) : Met l y_B_setNumber w_B_setNumber rm_B_setNumber (va_Pc [.ref (h 1), .int (nI (a)), .int (nI (k)), .long (x)] (cB D h cA n tb A d)) (va_Qv (fun v => v = setN d a k x) (cB D h cA n tb A) A) 0 0 A := by
  refine g_ofW (cc := b_B_setNumber) (maxL := 6) (ret := none) (by decide) rfl (Nat.le_of_ble_eq_true rfl) ?_
  intro p e s m below meth c ls hx hb hml hr hlk hown hts hnm hB hl
  have hown : s.vm.findClass R_B = some m.cls := hown
  have hP := hB.1
  have hK := hB.2.1
  have hS : va_S A s.heap s.heap [] := va_S.rf
  have hl : lv_has ls 6 [(0, .ref (h 1)), (1, .int (nI (a))), (2, .int (nI (k))), (3, .long (x))] := hl
  refine lv_iconst (v := nI 0) hx hb d_B_setNumber_0 rfl ?_
  refine lv_istore (lv' := [(5, .int (nI (0))), (0, .ref (h 1)), (1, .int (nI (a))), (2, .int (nI (k))), (3, .long (x))]) hx hb d_B_setNumber_1 hl (by decide) rfl (fun ls hl => ?_)
  rw [← setN_0 d a x] at hP
  have lp : ∀ (q : Nat) (i : Nat) (H : Heap) (locs : List Loc) (ls : Array Slot), (i ≤ k) → (k + 1 ≤ i + q) → va_P D classes (cW h cA n (setN d a i x)) H → va_S A s.heap H locs → lv_has ls 6 [(5, .int (nI (i))), (0, .ref (h 1)), (1, .int (nI (a))), (2, .int (nI (k))), (3, .long (x))] → W p l e rm_B_setNumber s m ([.ref (h 1), .int (nI (a)), .int (nI (k)), .long (x)] : List Value).toArray below meth c H locs 0 0 (MQ below (va_Qv (fun v => v = setN d a k x) (cB D h cA n tb A) A) ([.ref (h 1), .int (nI (a)), .int (nI (k)), .long (x)] : List Value).toArray s 0 0 A) (F0 m 3 ls []) := by
    intro q
    induction q with
    | zero =>
      intro i H locs ls hi hq hP hS hl
      exact absurd hq (by omega)
    | succ q ih =>
      intro i H locs ls hi hq hP hS hl
      refine lv_iload hx hb d_B_setNumber_3 (lv_at hl 0 rfl) ?_
      refine lv_iload_n hx hb d_B_setNumber_5 rfl (lv_at hl 3 rfl) ?_
      refine lv_icmp_ge (tgt := 33) hx hb d_B_setNumber_6 (by decide) (fun c_6 => ?_) (fun c_6 => ?_)
      · have hik : i = k := ge_t hi (by omega) c_6
        exact g_vret hx hb hr hlk cW_w cX_x hB hP hS (by rw [hik]) d_B_setNumber_33
      · have hik : i < k := ge_f (by omega) (by omega) c_6
        refine lv_aload_n hx hb d_B_setNumber_9 rfl (lv_at hl 1 rfl) ?_
        refine va_get (D := D) (ci := 1) (v := .ref (h 4)) (C := R_B) (T := F_B) (N := 1) hx hb hts (fun w h => .tail _ (fi_B w h)) hown hK hP 1 rfl rfl 0 (by decide) (hts _ (.tail _ m_49)) (fun _ h9 => h9) rfl d_B_setNumber_10 ?_
        refine lv_iload_n hx hb d_B_setNumber_13 rfl (lv_at hl 2 rfl) ?_
        refine lv_iload hx hb d_B_setNumber_14 (lv_at hl 0 rfl) ?_
        refine lv_iaddN hx hb d_B_setNumber_16 ?_
        refine lv_lload_n hx hb d_B_setNumber_17 rfl (lv_at hl 4 rfl) ?_
        refine lv_bipush (v := nI 8) hx hb d_B_setNumber_18 rfl ?_
        refine lv_iload hx hb d_B_setNumber_20 (lv_at hl 0 rfl) ?_
        refine lv_imulN hx hb d_B_setNumber_22 ?_
        refine lv_lushr hx hb d_B_setNumber_23 rfl ?_
        refine lv_l2i hx hb d_B_setNumber_24 rfl ?_
        refine lv_i2b hx hb d_B_setNumber_25 rfl ?_
        refine c_bast hx hb hB hP hS (a := a + i) (y := byt x i) (lo8_b _) (by omega) hn2 d_B_setNumber_26 (fun H locs hP hS => ?_)
        rw [setN_s] at hP
        refine lv_iinc (v := (nI (i + 1))) (lv' := [(5, .int (nI (i + 1))), (0, .ref (h 1)), (1, .int (nI (a))), (2, .int (nI (k))), (3, .long (x))]) hx hb d_B_setNumber_27 hl (k := 0) rfl (nI_add _ _) (by decide) rfl (fun ls hl => ?_)
        refine lv_goto (tgt := 3) hx hb d_B_setNumber_30 (by decide) ?_
        exact ih (i + 1) _ _ _ (by omega) (by omega) hP hS (lv_sub hl [0, 1, 2, 3, 4] rfl)
  exact lp (k + 1) 0 _ _ _ (Nat.zero_le _) (by omega) hP hS (lv_sub hl [0, 1, 2, 3, 4] rfl)
abbrev w_B_isZero : List Cond := .code y_B_isZero b_B_isZero 4 (some .boolean) :: ALL
abbrev rm_B_isZero : Room := { frames := 0, cells := 0, slots := 0, locals := 0 }
theorem hd_B_isZero : y_B_isZero.cls = R_B ∧ y_B_isZero.cls ≠ "java/lang/invoke/MethodHandle" ∧ y_B_isZero.cls ≠ "java/lang/invoke/VarHandle" ∧ (parseMethodDescriptor y_B_isZero.desc).map (fun d => d.parameters.length) = some 2 := by decide +kernel
set_option maxHeartbeats 4000000 in
set_option maxRecDepth 100000 in
theorem c_B_isZero (l : Launch) (D : va_G) (h : Nat → Nat) (cA : ClassId) (n tb : Nat) (A : Nat → Prop) (hn : 12 ≤ n) (hn2 : n ≤ 24) (d : Nat → BitVec 8) (a k : Nat) (h1 : a + k ≤ n * 512) : Met l y_B_isZero w_B_isZero rm_B_isZero (va_Pc [.ref (h 1), .int (nI (a)), .int (nI (k))] (cB D h cA n tb A d)) (va_Qi (fun r v => r = bI (isZ d a k) ∧ v = d) (cB D h cA n tb A) A) 0 0 A := by
  refine g_ofW (cc := b_B_isZero) (maxL := 4) (ret := (some .boolean)) (by decide) rfl (Nat.le_of_ble_eq_true rfl) ?_
  intro p e s m below meth c ls hx hb hml hr hlk hown hts hnm hB hl
  have hown : s.vm.findClass R_B = some m.cls := hown
  have hP := hB.1
  have hK := hB.2.1
  have hS : va_S A s.heap s.heap [] := va_S.rf
  have hl : lv_has ls 4 [(0, .ref (h 1)), (1, .int (nI (a))), (2, .int (nI (k)))] := hl
  refine lv_iconst (v := nI 0) hx hb d_B_isZero_0 rfl ?_
  refine lv_istore_n (lv' := [(3, .int (nI (0))), (0, .ref (h 1)), (1, .int (nI (a))), (2, .int (nI (k)))]) hx hb d_B_isZero_1 rfl hl (by decide) rfl (fun ls hl => ?_)
  have lp : ∀ (q : Nat) (i : Nat) (H : Heap) (locs : List Loc) (ls : Array Slot), (i ≤ k) → (k + 1 ≤ i + q) → (∀ j, j < i → d (a + j) = 0) → va_P D classes (cW h cA n (d)) H → va_S A s.heap H locs → lv_has ls 4 [(3, .int (nI (i))), (0, .ref (h 1)), (1, .int (nI (a))), (2, .int (nI (k)))] → W p l e rm_B_isZero s m ([.ref (h 1), .int (nI (a)), .int (nI (k))] : List Value).toArray below meth c H locs 0 0 (MQ below (va_Qi (fun r v => r = bI (isZ d a k) ∧ v = d) (cB D h cA n tb A) A) ([.ref (h 1), .int (nI (a)), .int (nI (k))] : List Value).toArray s 0 0 A) (F0 m 2 ls []) := by
    intro q
    induction q with
    | zero =>
      intro i H locs ls hi hq hz hP hS hl
      exact absurd hq (by omega)
    | succ q ih =>
      intro i H locs ls hi hq hz hP hS hl
      refine lv_iload_n hx hb d_B_isZero_2 rfl (lv_at hl 0 rfl) ?_
      refine lv_iload_n hx hb d_B_isZero_3 rfl (lv_at hl 3 rfl) ?_
      refine lv_icmp_ge (tgt := 26) hx hb d_B_isZero_4 (by decide) (fun c_4 => ?_) (fun c_4 => ?_)
      · have hik : i = k := ge_t hi (by omega) c_4
        refine lv_iconst (v := nI 1) hx hb d_B_isZero_26 rfl ?_
        exact g_zret (v := (nI (1))) hx hb hr (rfl) hlk cW_w cX_x hB hP hS (⟨(bI_t (by rw [← hik]; exact hz)).symm, rfl⟩) d_B_isZero_27
      · have hik : i < k := ge_f (by omega) (by omega) c_4
        refine lv_aload_n hx hb d_B_isZero_7 rfl (lv_at hl 1 rfl) ?_
        refine va_get (D := D) (ci := 1) (v := .ref (h 4)) (C := R_B) (T := F_B) (N := 1) hx hb hts (fun w h => .tail _ (fi_B w h)) hown hK hP 1 rfl rfl 0 (by decide) (hts _ (.tail _ m_49)) (fun _ h9 => h9) rfl d_B_isZero_8 ?_
        refine lv_iload_n hx hb d_B_isZero_11 rfl (lv_at hl 2 rfl) ?_
        refine lv_iload_n hx hb d_B_isZero_12 rfl (lv_at hl 0 rfl) ?_
        refine lv_iaddN hx hb d_B_isZero_13 ?_
        refine c_bald hx hb hB hP (a := a + i) (by omega) hn2 d_B_isZero_14 ?_
        refine lv_if_eq (tgt := 20) hx hb d_B_isZero_15 (by decide) (fun c_15 => ?_) (fun c_15 => ?_)
        · refine lv_iinc (v := (nI (i + 1))) (lv' := [(3, .int (nI (i + 1))), (0, .ref (h 1)), (1, .int (nI (a))), (2, .int (nI (k)))]) hx hb d_B_isZero_20 hl (k := 0) rfl (nI_add _ _) (by decide) rfl (fun ls hl => ?_)
          refine lv_goto (tgt := 2) hx hb d_B_isZero_23 (by decide) ?_
          exact ih (i + 1) _ _ _ (by omega) (by omega) (lt_a hz ((sx_0 _).mp c_15)) hP hS (lv_sub hl [0, 1, 2, 3] rfl)
        · refine lv_iconst (v := nI 0) hx hb d_B_isZero_18 rfl ?_
          exact g_zret (v := (nI (0))) hx hb hr (rfl) hlk cW_w cX_x hB hP hS (⟨(bI_f (fun hz2 => c_15 ((sx_0 _).mpr (hz2 i hik)))).symm, rfl⟩) d_B_isZero_19
  exact lp (k + 1) 0 _ _ _ (Nat.zero_le _) (by omega) lt_0 hP hS (lv_sub hl [0, 1, 2, 3] rfl)
abbrev w_B_areAlike : List Cond := .code y_B_areAlike b_B_areAlike 5 (some .boolean) :: ALL
abbrev rm_B_areAlike : Room := { frames := 0, cells := 0, slots := 0, locals := 0 }
theorem hd_B_areAlike : y_B_areAlike.cls = R_B ∧ y_B_areAlike.cls ≠ "java/lang/invoke/MethodHandle" ∧ y_B_areAlike.cls ≠ "java/lang/invoke/VarHandle" ∧ (parseMethodDescriptor y_B_areAlike.desc).map (fun d => d.parameters.length) = some 3 := by decide +kernel
set_option maxHeartbeats 4000000 in
set_option maxRecDepth 100000 in
theorem c_B_areAlike (l : Launch) (D : va_G) (h : Nat → Nat) (cA : ClassId) (n tb : Nat) (A : Nat → Prop) (hn : 12 ≤ n) (hn2 : n ≤ 24) (d : Nat → BitVec 8) (a b k : Nat) (h1 : a + k ≤ n * 512) (h2 : b + k ≤ n * 512) : Met l y_B_areAlike w_B_areAlike rm_B_areAlike (va_Pc [.ref (h 1), .int (nI (a)), .int (nI (b)), .int (nI (k))] (cB D h cA n tb A d)) (va_Qi (fun r v => r = bI (alk d d a b k) ∧ v = d) (cB D h cA n tb A) A) 0 0 A := by
  refine g_ofW (cc := b_B_areAlike) (maxL := 5) (ret := (some .boolean)) (by decide) rfl (Nat.le_of_ble_eq_true rfl) ?_
  intro p e s m below meth c ls hx hb hml hr hlk hown hts hnm hB hl
  have hown : s.vm.findClass R_B = some m.cls := hown
  have hP := hB.1
  have hK := hB.2.1
  have hS : va_S A s.heap s.heap [] := va_S.rf
  have hl : lv_has ls 5 [(0, .ref (h 1)), (1, .int (nI (a))), (2, .int (nI (b))), (3, .int (nI (k)))] := hl
  refine lv_iconst (v := nI 0) hx hb d_B_areAlike_0 rfl ?_
  refine lv_istore (lv' := [(4, .int (nI (0))), (0, .ref (h 1)), (1, .int (nI (a))), (2, .int (nI (b))), (3, .int (nI (k)))]) hx hb d_B_areAlike_1 hl (by decide) rfl (fun ls hl => ?_)
  have lp : ∀ (q : Nat) (i : Nat) (H : Heap) (locs : List Loc) (ls : Array Slot), (i ≤ k) → (k + 1 ≤ i + q) → (∀ j, j < i → d (a + j) = d (b + j)) → va_P D classes (cW h cA n (d)) H → va_S A s.heap H locs → lv_has ls 5 [(4, .int (nI (i))), (0, .ref (h 1)), (1, .int (nI (a))), (2, .int (nI (b))), (3, .int (nI (k)))] → W p l e rm_B_areAlike s m ([.ref (h 1), .int (nI (a)), .int (nI (b)), .int (nI (k))] : List Value).toArray below meth c H locs 0 0 (MQ below (va_Qi (fun r v => r = bI (alk d d a b k) ∧ v = d) (cB D h cA n tb A) A) ([.ref (h 1), .int (nI (a)), .int (nI (b)), .int (nI (k))] : List Value).toArray s 0 0 A) (F0 m 3 ls []) := by
    intro q
    induction q with
    | zero =>
      intro i H locs ls hi hq hz hP hS hl
      exact absurd hq (by omega)
    | succ q ih =>
      intro i H locs ls hi hq hz hP hS hl
      refine lv_iload hx hb d_B_areAlike_3 (lv_at hl 0 rfl) ?_
      refine lv_iload_n hx hb d_B_areAlike_5 rfl (lv_at hl 4 rfl) ?_
      refine lv_icmp_ge (tgt := 38) hx hb d_B_areAlike_6 (by decide) (fun c_6 => ?_) (fun c_6 => ?_)
      · have hik : i = k := ge_t hi (by omega) c_6
        refine lv_iconst (v := nI 1) hx hb d_B_areAlike_38 rfl ?_
        exact g_zret (v := (nI (1))) hx hb hr (rfl) hlk cW_w cX_x hB hP hS (⟨(bI_t (by rw [← hik]; exact hz)).symm, rfl⟩) d_B_areAlike_39
      · have hik : i < k := ge_f (by omega) (by omega) c_6
        refine lv_aload_n hx hb d_B_areAlike_9 rfl (lv_at hl 1 rfl) ?_
        refine va_get (D := D) (ci := 1) (v := .ref (h 4)) (C := R_B) (T := F_B) (N := 1) hx hb hts (fun w h => .tail _ (fi_B w h)) hown hK hP 1 rfl rfl 0 (by decide) (hts _ (.tail _ m_49)) (fun _ h9 => h9) rfl d_B_areAlike_10 ?_
        refine lv_iload_n hx hb d_B_areAlike_13 rfl (lv_at hl 2 rfl) ?_
        refine lv_iload hx hb d_B_areAlike_14 (lv_at hl 0 rfl) ?_
        refine lv_iaddN hx hb d_B_areAlike_16 ?_
        refine c_bald hx hb hB hP (a := a + i) (by omega) hn2 d_B_areAlike_17 ?_
        refine lv_aload_n hx hb d_B_areAlike_18 rfl (lv_at hl 1 rfl) ?_
        refine va_get (D := D) (ci := 1) (v := .ref (h 4)) (C := R_B) (T := F_B) (N := 1) hx hb hts (fun w h => .tail _ (fi_B w h)) hown hK hP 1 rfl rfl 0 (by decide) (hts _ (.tail _ m_49)) (fun _ h9 => h9) rfl d_B_areAlike_19 ?_
        refine lv_iload_n hx hb d_B_areAlike_22 rfl (lv_at hl 3 rfl) ?_
        refine lv_iload hx hb d_B_areAlike_23 (lv_at hl 0 rfl) ?_
        refine lv_iaddN hx hb d_B_areAlike_25 ?_
        refine c_bald hx hb hB hP (a := b + i) (by omega) hn2 d_B_areAlike_26 ?_
        refine lv_icmp_eq (tgt := 32) hx hb d_B_areAlike_27 (by decide) (fun c_27 => ?_) (fun c_27 => ?_)
        · refine lv_iinc (v := (nI (i + 1))) (lv' := [(4, .int (nI (i + 1))), (0, .ref (h 1)), (1, .int (nI (a))), (2, .int (nI (b))), (3, .int (nI (k)))]) hx hb d_B_areAlike_32 hl (k := 0) rfl (nI_add _ _) (by decide) rfl (fun ls hl => ?_)
          refine lv_goto (tgt := 3) hx hb d_B_areAlike_35 (by decide) ?_
          exact ih (i + 1) _ _ _ (by omega) (by omega) (lt_a hz (sx_inj.mp c_27)) hP hS (lv_sub hl [0, 1, 2, 3, 4] rfl)
        · refine lv_iconst (v := nI 0) hx hb d_B_areAlike_30 rfl ?_
          exact g_zret (v := (nI (0))) hx hb hr (rfl) hlk cW_w cX_x hB hP hS (⟨(bI_f (fun hz2 => c_27 (sx_inj.mpr (hz2 i hik)))).symm, rfl⟩) d_B_areAlike_31
  exact lp (k + 1) 0 _ _ _ (Nat.zero_le _) (by omega) lt_0 hP hS (lv_sub hl [0, 1, 2, 3, 4] rfl)
abbrev w_B_clear : List Cond := .code y_B_clear b_B_clear 4 none :: ALL
abbrev rm_B_clear : Room := { frames := 0, cells := 0, slots := 0, locals := 0 }
theorem hd_B_clear : y_B_clear.cls = R_B ∧ y_B_clear.cls ≠ "java/lang/invoke/MethodHandle" ∧ y_B_clear.cls ≠ "java/lang/invoke/VarHandle" ∧ (parseMethodDescriptor y_B_clear.desc).map (fun d => d.parameters.length) = some 2 := by decide +kernel
set_option maxHeartbeats 4000000 in
set_option maxRecDepth 100000 in
theorem c_B_clear (l : Launch) (D : va_G) (h : Nat → Nat) (cA : ClassId) (n tb : Nat) (A : Nat → Prop) (hn : 12 ≤ n) (hn2 : n ≤ 24) (d : Nat → BitVec 8) (a k : Nat) (h1 : a + k ≤ n * 512) : Met l y_B_clear w_B_clear rm_B_clear (va_Pc [.ref (h 1), .int (nI (a)), .int (nI (k))] (cB D h cA n tb A d)) (va_Qv (fun v => v = clr d a k) (cB D h cA n tb A) A) 0 0 A := by
  refine g_ofW (cc := b_B_clear) (maxL := 4) (ret := none) (by decide) rfl (Nat.le_of_ble_eq_true rfl) ?_
  intro p e s m below meth c ls hx hb hml hr hlk hown hts hnm hB hl
  have hown : s.vm.findClass R_B = some m.cls := hown
  have hP := hB.1
  have hK := hB.2.1
  have hS : va_S A s.heap s.heap [] := va_S.rf
  have hl : lv_has ls 4 [(0, .ref (h 1)), (1, .int (nI (a))), (2, .int (nI (k)))] := hl
  refine lv_iconst (v := nI 0) hx hb d_B_clear_0 rfl ?_
  refine lv_istore_n (lv' := [(3, .int (nI (0))), (0, .ref (h 1)), (1, .int (nI (a))), (2, .int (nI (k)))]) hx hb d_B_clear_1 rfl hl (by decide) rfl (fun ls hl => ?_)
  rw [← clr_0 d a] at hP
  have lp : ∀ (q : Nat) (i : Nat) (H : Heap) (locs : List Loc) (ls : Array Slot), (i ≤ k) → (k + 1 ≤ i + q) → va_P D classes (cW h cA n (clr d a i)) H → va_S A s.heap H locs → lv_has ls 4 [(3, .int (nI (i))), (0, .ref (h 1)), (1, .int (nI (a))), (2, .int (nI (k)))] → W p l e rm_B_clear s m ([.ref (h 1), .int (nI (a)), .int (nI (k))] : List Value).toArray below meth c H locs 0 0 (MQ below (va_Qv (fun v => v = clr d a k) (cB D h cA n tb A) A) ([.ref (h 1), .int (nI (a)), .int (nI (k))] : List Value).toArray s 0 0 A) (F0 m 2 ls []) := by
    intro q
    induction q with
    | zero =>
      intro i H locs ls hi hq hP hS hl
      exact absurd hq (by omega)
    | succ q ih =>
      intro i H locs ls hi hq hP hS hl
      refine lv_iload_n hx hb d_B_clear_2 rfl (lv_at hl 0 rfl) ?_
      refine lv_iload_n hx hb d_B_clear_3 rfl (lv_at hl 3 rfl) ?_
      refine lv_icmp_ge (tgt := 22) hx hb d_B_clear_4 (by decide) (fun c_4 => ?_) (fun c_4 => ?_)
      · have hik : i = k := ge_t hi (by omega) c_4
        exact g_vret hx hb hr hlk cW_w cX_x hB hP hS (by rw [hik]) d_B_clear_22
      · have hik : i < k := ge_f (by omega) (by omega) c_4
        refine lv_aload_n hx hb d_B_clear_7 rfl (lv_at hl 1 rfl) ?_
        refine va_get (D := D) (ci := 1) (v := .ref (h 4)) (C := R_B) (T := F_B) (N := 1) hx hb hts (fun w h => .tail _ (fi_B w h)) hown hK hP 1 rfl rfl 0 (by decide) (hts _ (.tail _ m_49)) (fun _ h9 => h9) rfl d_B_clear_8 ?_
        refine lv_iload_n hx hb d_B_clear_11 rfl (lv_at hl 2 rfl) ?_
        refine lv_iload_n hx hb d_B_clear_12 rfl (lv_at hl 0 rfl) ?_
        refine lv_iaddN hx hb d_B_clear_13 ?_
        refine lv_iconst (v := nI 0) hx hb d_B_clear_14 rfl ?_
        refine c_bast hx hb hB hP hS (a := a + i) (y := 0) (rfl) (by omega) hn2 d_B_clear_15 (fun H locs hP hS => ?_)
        rw [clr_s] at hP
        refine lv_iinc (v := (nI (i + 1))) (lv' := [(3, .int (nI (i + 1))), (0, .ref (h 1)), (1, .int (nI (a))), (2, .int (nI (k)))]) hx hb d_B_clear_16 hl (k := 0) rfl (nI_add _ _) (by decide) rfl (fun ls hl => ?_)
        refine lv_goto (tgt := 2) hx hb d_B_clear_19 (by decide) ?_
        exact ih (i + 1) _ _ _ (by omega) (by omega) hP hS (lv_sub hl [0, 1, 2, 3] rfl)
  exact lp (k + 1) 0 _ _ _ (Nat.zero_le _) (by omega) hP hS (lv_sub hl [0, 1, 2, 3] rfl)
abbrev w_B_carry : List Cond := .code y_B_carry b_B_carry 4 none :: ALL
abbrev rm_B_carry : Room := { frames := 1, cells := 0, slots := 0, locals := 60 }
theorem hd_B_carry : y_B_carry.cls = R_B ∧ y_B_carry.cls ≠ "java/lang/invoke/MethodHandle" ∧ y_B_carry.cls ≠ "java/lang/invoke/VarHandle" ∧ (parseMethodDescriptor y_B_carry.desc).map (fun d => d.parameters.length) = some 3 := by decide +kernel
set_option maxHeartbeats 4000000 in
set_option maxRecDepth 100000 in
theorem c_B_carry (l : Launch) (D : va_G) (h : Nat → Nat) (cA : ClassId) (n tb : Nat) (A : Nat → Prop) (hn : 12 ≤ n) (hn2 : n ≤ 24) (d : Nat → BitVec 8) (a b k : Nat) (h1 : a + k ≤ n * 512) (h2 : b + k ≤ n * 512) : Met l y_B_carry w_B_carry rm_B_carry (va_Pc [.ref (h 1), .int (nI (a)), .int (nI (b)), .int (nI (k))] (cB D h cA n tb A d)) (va_Qv (fun v => v = cpy d a b k) (cB D h cA n tb A) A) 0 0 A := by
  refine g_ofW (cc := b_B_carry) (maxL := 4) (ret := none) (by decide) rfl (Nat.le_of_ble_eq_true rfl) ?_
  intro p e s m below meth c ls hx hb hml hr hlk hown hts hnm hB hl
  have hown : s.vm.findClass R_B = some m.cls := hown
  have hP := hB.1
  have hK := hB.2.1
  have hS : va_S A s.heap s.heap [] := va_S.rf
  have hl : lv_has ls 4 [(0, .ref (h 1)), (1, .int (nI (a))), (2, .int (nI (b))), (3, .int (nI (k)))] := hl
  refine lv_aload_n hx hb d_B_carry_0 rfl (lv_at hl 0 rfl) ?_
  refine va_get (D := D) (ci := 1) (v := .ref (h 4)) (C := R_B) (T := F_B) (N := 1) hx hb hts (fun w h => .tail _ (fi_B w h)) hown hK hP 1 rfl rfl 0 (by decide) (hts _ (.tail _ m_49)) (fun _ h9 => h9) rfl d_B_carry_1 ?_
  refine lv_iload_n hx hb d_B_carry_4 rfl (lv_at hl 1 rfl) ?_
  refine lv_aload_n hx hb d_B_carry_5 rfl (lv_at hl 0 rfl) ?_
  refine va_get (D := D) (ci := 1) (v := .ref (h 4)) (C := R_B) (T := F_B) (N := 1) hx hb hts (fun w h => .tail _ (fi_B w h)) hown hK hP 1 rfl rfl 0 (by decide) (hts _ (.tail _ m_49)) (fun _ h9 => h9) rfl d_B_carry_6 ?_
  refine lv_iload_n hx hb d_B_carry_9 rfl (lv_at hl 2 rfl) ?_
  refine lv_iload_n hx hb d_B_carry_10 rfl (lv_at hl 3 rfl) ?_
  refine va_copyi (ty := .byte) hx hb (by rw [hml, hl.1]) hown (hts _ (.tail _ m_181)) (hts _ (.tail _ m_183)) (hts _ (.tail _ m_182)) (hts _ (.tail _ m_34)) hK hP (cW_w A _ _ hB.2.2.1) hS 4 4 0 0 rfl rfl rfl rfl rfl (nI_pos (by omega)) (nI_pos (by omega)) (nI_pos (by omega)) (by rw [nI_clamp (by omega), nI_clamp (by omega)]; omega) (by rw [nI_clamp (by omega), nI_clamp (by omega)]; omega) (fun _ _ => sx_fit _) (by decide) (by decide) d_B_carry_11 (fun H locs hP _ hS => ?_)
  rw [nI_clamp (by omega), nI_clamp (by omega), nI_clamp (by omega)] at hP
  have hP : va_P D classes (cW h cA n (cpy d a b k)) H := by rw [← cpy_sx] at hP; exact hP
  exact g_vret hx hb hr hlk cW_w cX_x hB hP hS (rfl) d_B_carry_14
abbrev w_B_addByte : List Cond := .code y_B_addByte b_B_addByte 4 (some .int) :: ALL
abbrev rm_B_addByte : Room := { frames := 0, cells := 0, slots := 0, locals := 0 }
theorem hd_B_addByte : y_B_addByte.cls = R_B ∧ y_B_addByte.cls ≠ "java/lang/invoke/MethodHandle" ∧ y_B_addByte.cls ≠ "java/lang/invoke/VarHandle" ∧ (parseMethodDescriptor y_B_addByte.desc).map (fun d => d.parameters.length) = some 2 := by decide +kernel
set_option maxHeartbeats 4000000 in
set_option maxRecDepth 100000 in
theorem c_B_addByte (l : Launch) (D : va_G) (h : Nat → Nat) (cA : ClassId) (n tb : Nat) (A : Nat → Prop) (hn : 12 ≤ n) (hn2 : n ≤ 24) (d : Nat → BitVec 8) (x0 y0 : Int32) : Met l y_B_addByte w_B_addByte rm_B_addByte (va_Pc [.int (x0), .int (y0)] (cB D h cA n tb A d)) (va_Qi (fun r v => r = adB x0 y0 ∧ v = d) (cB D h cA n tb A) A) 0 0 A := by
  refine g_ofW (cc := b_B_addByte) (maxL := 4) (ret := (some .int)) (by decide) rfl (Nat.le_of_ble_eq_true rfl) ?_
  intro p e s m below meth c ls hx hb hml hr hlk hown hts hnm hB hl
  have hown : s.vm.findClass R_B = some m.cls := hown
  have hP := hB.1
  have hK := hB.2.1
  have hS : va_S A s.heap s.heap [] := va_S.rf
  have hl : lv_has ls 4 [(0, .int (x0)), (1, .int (y0))] := hl
  refine lv_iload_n hx hb d_B_addByte_0 rfl (lv_at hl 0 rfl) ?_
  refine lv_iload_n hx hb d_B_addByte_1 rfl (lv_at hl 1 rfl) ?_
  refine lv_ixor hx hb d_B_addByte_2 ?_
  refine lv_topi (fun x1 e1 => ?_)
  refine lv_istore_n (lv' := [(2, .int (x1)), (0, .int (x0)), (1, .int (y0))]) hx hb d_B_addByte_3 rfl hl (by decide) rfl (fun ls hl => ?_)
  refine lv_iload_n hx hb d_B_addByte_4 rfl (lv_at hl 0 rfl) ?_
  refine lv_iconst (v := nI 4) hx hb d_B_addByte_5 rfl ?_
  refine lv_iushr hx hb d_B_addByte_6 rfl ?_
  refine va_gets (C := "TwinTables$Bytes") (n := "FOUR_STEPS") (d := "[I") (v := .ref tb) (ref := "TwinTables$Bytes") hx hb hB.2.2.2.1 hS hown (hts _ (.tail _ m_209)) (fun _ h9 => h9) d_B_addByte_7 ?_
  refine lv_iload_n hx hb d_B_addByte_10 rfl (lv_at hl 0 rfl) ?_
  refine lv_bipush (v := nI 15) hx hb d_B_addByte_11 rfl ?_
  refine lv_iand hx hb d_B_addByte_13 ?_
  refine va_ti hx hb hB.2.2.2.2.1 hS (pk_andIn _ 4 (by decide) (by decide)) (v := .int (four (x1 &&& nI 15).toNatClampNeg)) (rfl) d_B_addByte_14 ?_
  refine lv_ixor hx hb d_B_addByte_15 ?_
  refine lv_topi (fun x2 e2 => ?_)
  refine lv_istore_n (lv' := [(3, .int (x2)), (2, .int (x1)), (0, .int (x0)), (1, .int (y0))]) hx hb d_B_addByte_16 rfl hl (by decide) rfl (fun ls hl => ?_)
  refine lv_iload_n hx hb d_B_addByte_17 rfl (lv_at hl 0 rfl) ?_
  refine lv_iconst (v := nI 4) hx hb d_B_addByte_18 rfl ?_
  refine lv_iushr hx hb d_B_addByte_19 rfl ?_
  refine va_gets (C := "TwinTables$Bytes") (n := "FOUR_STEPS") (d := "[I") (v := .ref tb) (ref := "TwinTables$Bytes") hx hb hB.2.2.2.1 hS hown (hts _ (.tail _ m_209)) (fun _ h9 => h9) d_B_addByte_20 ?_
  refine lv_iload_n hx hb d_B_addByte_23 rfl (lv_at hl 0 rfl) ?_
  refine lv_bipush (v := nI 15) hx hb d_B_addByte_24 rfl ?_
  refine lv_iand hx hb d_B_addByte_26 ?_
  refine va_ti hx hb hB.2.2.2.2.1 hS (pk_andIn _ 4 (by decide) (by decide)) (v := .int (four (x2 &&& nI 15).toNatClampNeg)) (rfl) d_B_addByte_27 ?_
  refine lv_ixor hx hb d_B_addByte_28 ?_
  exact g_iret (v := ((((x2).toUInt32 >>> ((nI (4)).toUInt32 &&& Int32.toUInt32 31)).toInt32) ^^^ (four (x2 &&& nI 15).toNatClampNeg))) hx hb hr hlk cW_w cX_x hB hP hS (⟨by rw [e2, e1]; rfl, rfl⟩) d_B_addByte_29
abbrev w_B_addBytes : List Cond := .code y_B_addBytes b_B_addBytes 6 (some .int) :: ALL
abbrev rm_B_addBytes : Room := { frames := 1, cells := 0, slots := 0, locals := 23 }
theorem hd_B_addBytes : y_B_addBytes.cls = R_B ∧ y_B_addBytes.cls ≠ "java/lang/invoke/MethodHandle" ∧ y_B_addBytes.cls ≠ "java/lang/invoke/VarHandle" ∧ (parseMethodDescriptor y_B_addBytes.desc).map (fun d => d.parameters.length) = some 3 := by decide +kernel
set_option maxHeartbeats 4000000 in
set_option maxRecDepth 100000 in
theorem c_B_addBytes (l : Launch) (D : va_G) (h : Nat → Nat) (cA : ClassId) (n tb : Nat) (A : Nat → Prop) (hn : 12 ≤ n) (hn2 : n ≤ 24) (d : Nat → BitVec 8) (x0 : Int32) (a k : Nat) (h1 : a + k ≤ n * 512) : Met l y_B_addBytes w_B_addBytes rm_B_addBytes (va_Pc [.ref (h 1), .int (x0), .int (nI (a)), .int (nI (k))] (cB D h cA n tb A d)) (va_Qi (fun r v => r = crc d x0 a k ∧ v = d) (cB D h cA n tb A) A) 0 0 A := by
  refine g_ofW (cc := b_B_addBytes) (maxL := 6) (ret := (some .int)) (by decide) rfl (Nat.le_of_ble_eq_true rfl) ?_
  intro p e s m below meth c ls hx hb hml hr hlk hown hts hnm hB hl
  have hown : s.vm.findClass R_B = some m.cls := hown
  have hP := hB.1
  have hK := hB.2.1
  have hS : va_S A s.heap s.heap [] := va_S.rf
  have hl : lv_has ls 6 [(0, .ref (h 1)), (1, .int (x0)), (2, .int (nI (a))), (3, .int (nI (k)))] := hl
  refine lv_iload_n hx hb d_B_addBytes_0 rfl (lv_at hl 1 rfl) ?_
  refine lv_istore (lv' := [(4, .int (x0)), (0, .ref (h 1)), (1, .int (x0)), (2, .int (nI (a))), (3, .int (nI (k)))]) hx hb d_B_addBytes_1 hl (by decide) rfl (fun ls hl => ?_)
  refine lv_iconst (v := nI 0) hx hb d_B_addBytes_3 rfl ?_
  refine lv_istore (lv' := [(5, .int (nI (0))), (4, .int (x0)), (0, .ref (h 1)), (1, .int (x0)), (2, .int (nI (a))), (3, .int (nI (k)))]) hx hb d_B_addBytes_4 hl (by decide) rfl (fun ls hl => ?_)
  have lp : ∀ (q : Nat) (i : Nat) (x : Int32) (H : Heap) (locs : List Loc) (ls : Array Slot), (i ≤ k) → (k + 1 ≤ i + q) → (x = crc d x0 a i) → va_P D classes (cW h cA n (d)) H → va_S A s.heap H locs → lv_has ls 6 [(5, .int (nI (i))), (4, .int (x)), (0, .ref (h 1)), (1, .int (x0)), (2, .int (nI (a))), (3, .int (nI (k)))] → W p l e rm_B_addBytes s m ([.ref (h 1), .int (x0), .int (nI (a)), .int (nI (k))] : List Value).toArray below meth c H locs 0 0 (MQ below (va_Qi (fun r v => r = crc d x0 a k ∧ v = d) (cB D h cA n tb A) A) ([.ref (h 1), .int (x0), .int (nI (a)), .int (nI (k))] : List Value).toArray s 0 0 A) (F0 m 6 ls []) := by
    intro q
    induction q with
    | zero =>
      intro i x H locs ls hi hq hv hP hS hl
      exact absurd hq (by omega)
    | succ q ih =>
      intro i x H locs ls hi hq hv hP hS hl
      refine lv_iload hx hb d_B_addBytes_6 (lv_at hl 0 rfl) ?_
      refine lv_iload_n hx hb d_B_addBytes_8 rfl (lv_at hl 5 rfl) ?_
      refine lv_icmp_ge (tgt := 38) hx hb d_B_addBytes_9 (by decide) (fun c_9 => ?_) (fun c_9 => ?_)
      · have hik : i = k := ge_t hi (by omega) c_9
        refine lv_iload hx hb d_B_addBytes_38 (lv_at hl 1 rfl) ?_
        exact g_iret (v := (x)) hx hb hr hlk cW_w cX_x hB hP hS (⟨by rw [hv, hik], rfl⟩) d_B_addBytes_40
      · have hik : i < k := ge_f (by omega) (by omega) c_9
        refine lv_iload hx hb d_B_addBytes_12 (lv_at hl 1 rfl) ?_
        refine lv_aload_n hx hb d_B_addBytes_14 rfl (lv_at hl 2 rfl) ?_
        refine va_get (D := D) (ci := 1) (v := .ref (h 4)) (C := R_B) (T := F_B) (N := 1) hx hb hts (fun w h => .tail _ (fi_B w h)) hown hK hP 1 rfl rfl 0 (by decide) (hts _ (.tail _ m_49)) (fun _ h9 => h9) rfl d_B_addBytes_15 ?_
        refine lv_iload_n hx hb d_B_addBytes_18 rfl (lv_at hl 4 rfl) ?_
        refine lv_iload hx hb d_B_addBytes_19 (lv_at hl 0 rfl) ?_
        refine lv_iaddN hx hb d_B_addBytes_21 ?_
        refine c_bald hx hb hB hP (a := a + i) (by omega) hn2 d_B_addBytes_22 ?_
        refine lv_sipush (v := nI 255) hx hb d_B_addBytes_23 rfl ?_
        refine lv_iand hx hb d_B_addBytes_26 ?_
        refine g_callSi (As := [.int (x), .int ((sx (d (a + i))) &&& (nI (255)))]) (rest := []) ⟨hx, hb, hml, hown, hts⟩ (index := 23) (c_B_addByte l D h cA n tb A hn hn2 (d) (x) ((sx (d (a + i))) &&& (nI (255)))) (cwS 2 hts (gd_S m_206 m_207 m_31 m_208) rfl rfl rfl hd_B_addByte ⟨Nat.le_of_ble_eq_true rfl, Nat.le_of_ble_eq_true rfl⟩) cW_w cX_x hB hP hS rfl hl.1 rfl (Nat.le_of_ble_eq_true rfl) d_B_addBytes_27 ⟨Nat.zero_le _, Nat.zero_le _⟩ (fun r_ v_ H locs hw hP hS => ?_)
        obtain ⟨hw1, hw2⟩ := hw; have hw1 := hw1.symm; have hw2 := hw2.symm; subst hw1; subst hw2
        refine lv_istore (lv' := [(4, .int (adB x ((sx (d (a + i))) &&& (nI (255))))), (5, .int (nI (i))), (0, .ref (h 1)), (1, .int (x0)), (2, .int (nI (a))), (3, .int (nI (k)))]) hx hb d_B_addBytes_30 hl (by decide) rfl (fun ls hl => ?_)
        refine lv_iinc (v := (nI (i + 1))) (lv' := [(5, .int (nI (i + 1))), (4, .int (adB x ((sx (d (a + i))) &&& (nI (255))))), (0, .ref (h 1)), (1, .int (x0)), (2, .int (nI (a))), (3, .int (nI (k)))]) hx hb d_B_addBytes_32 hl (k := 1) rfl (nI_add _ _) (by decide) rfl (fun ls hl => ?_)
        refine lv_goto (tgt := 6) hx hb d_B_addBytes_35 (by decide) ?_
        exact ih (i + 1) _ _ _ _ (by omega) (by omega) (by rw [hv, sx_and]; rfl) hP hS (lv_sub hl [0, 1, 2, 3, 4, 5] rfl)
  exact lp (k + 1) 0 _ _ _ _ (Nat.zero_le _) (by omega) rfl hP hS (lv_sub hl [0, 1, 2, 3, 4, 5] rfl)
abbrev w_B_sumOf : List Cond := .code y_B_sumOf b_B_sumOf 3 (some .int) :: ALL
abbrev rm_B_sumOf : Room := { frames := 2, cells := 0, slots := 0, locals := 48 }
theorem hd_B_sumOf : y_B_sumOf.cls = R_B ∧ y_B_sumOf.cls ≠ "java/lang/invoke/MethodHandle" ∧ y_B_sumOf.cls ≠ "java/lang/invoke/VarHandle" ∧ (parseMethodDescriptor y_B_sumOf.desc).map (fun d => d.parameters.length) = some 2 := by decide +kernel
set_option maxHeartbeats 4000000 in
set_option maxRecDepth 100000 in
theorem c_B_sumOf (l : Launch) (D : va_G) (h : Nat → Nat) (cA : ClassId) (n tb : Nat) (A : Nat → Prop) (hn : 12 ≤ n) (hn2 : n ≤ 24) (d : Nat → BitVec 8) (a k : Nat) (h1 : a + k ≤ n * 512) : Met l y_B_sumOf w_B_sumOf rm_B_sumOf (va_Pc [.ref (h 1), .int (nI (a)), .int (nI (k))] (cB D h cA n tb A d)) (va_Qi (fun r v => r = smO d a k ∧ v = d) (cB D h cA n tb A) A) 0 0 A := by
  refine g_ofW (cc := b_B_sumOf) (maxL := 3) (ret := (some .int)) (by decide) rfl (Nat.le_of_ble_eq_true rfl) ?_
  intro p e s m below meth c ls hx hb hml hr hlk hown hts hnm hB hl
  have hown : s.vm.findClass R_B = some m.cls := hown
  have hP := hB.1
  have hK := hB.2.1
  have hS : va_S A s.heap s.heap [] := va_S.rf
  have hl : lv_has ls 3 [(0, .ref (h 1)), (1, .int (nI (a))), (2, .int (nI (k)))] := hl
  refine lv_iconst (v := -1) hx hb d_B_sumOf_0 rfl ?_
  refine lv_aload_n hx hb d_B_sumOf_1 rfl (lv_at hl 0 rfl) ?_
  refine lv_iconst (v := -1) hx hb d_B_sumOf_2 rfl ?_
  refine lv_iload_n hx hb d_B_sumOf_3 rfl (lv_at hl 1 rfl) ?_
  refine lv_iload_n hx hb d_B_sumOf_4 rfl (lv_at hl 2 rfl) ?_
  refine g_callVi (As := [.int (-1), .int (nI (a)), .int (nI (k))]) (rest := [.int (-1)]) ⟨hx, hb, hml, hown, hts⟩ (C := R_B) (index := 19) (c_B_addBytes l D h cA n tb A hn hn2 (d) (-1) (a) (k) (by omega)) (cwV 3 hts (gd_V m_202 m_204 m_5 m_31 m_205) rfl rfl rfl hd_B_addBytes ⟨Nat.le_of_ble_eq_true rfl, Nat.le_of_ble_eq_true rfl⟩) cW_w cX_x hB hP hS (ci := 1) rfl (1) rfl rfl hl.1 rfl (Nat.le_of_ble_eq_true rfl) d_B_sumOf_5 ⟨Nat.zero_le _, Nat.zero_le _⟩ (fun r_ v_ H locs hw hP hS => ?_)
  obtain ⟨hw1, hw2⟩ := hw; have hw1 := hw1.symm; have hw2 := hw2.symm; subst hw1; subst hw2
  refine lv_isub hx hb d_B_sumOf_8 ?_
  exact g_iret (v := ((-1) - (crc d (-1) a k))) hx hb hr hlk cW_w cX_x hB hP hS (⟨rfl, rfl⟩) d_B_sumOf_9
abbrev w_B_sumWithout : List Cond := .code y_B_sumWithout b_B_sumWithout 6 (some .int) :: ALL
abbrev rm_B_sumWithout : Room := { frames := 2, cells := 0, slots := 0, locals := 48 }
theorem hd_B_sumWithout : y_B_sumWithout.cls = R_B ∧ y_B_sumWithout.cls ≠ "java/lang/invoke/MethodHandle" ∧ y_B_sumWithout.cls ≠ "java/lang/invoke/VarHandle" ∧ (parseMethodDescriptor y_B_sumWithout.desc).map (fun d => d.parameters.length) = some 3 := by decide +kernel
set_option maxHeartbeats 4000000 in
set_option maxRecDepth 100000 in
theorem c_B_sumWithout (l : Launch) (D : va_G) (h : Nat → Nat) (cA : ClassId) (n tb : Nat) (A : Nat → Prop) (hn : 12 ≤ n) (hn2 : n ≤ 24) (d : Nat → BitVec 8) (b a k : Nat) (h1 : a + k ≤ n * 512) (h2 : a ≤ b) (h3 : b + 4 ≤ a + k) : Met l y_B_sumWithout w_B_sumWithout rm_B_sumWithout (va_Pc [.ref (h 1), .int (nI (b)), .int (nI (a)), .int (nI (k))] (cB D h cA n tb A d)) (va_Qi (fun r v => r = smW d b a k ∧ v = d) (cB D h cA n tb A) A) 0 0 A := by
  refine g_ofW (cc := b_B_sumWithout) (maxL := 6) (ret := (some .int)) (by decide) rfl (Nat.le_of_ble_eq_true rfl) ?_
  intro p e s m below meth c ls hx hb hml hr hlk hown hts hnm hB hl
  have hown : s.vm.findClass R_B = some m.cls := hown
  have hP := hB.1
  have hK := hB.2.1
  have hS : va_S A s.heap s.heap [] := va_S.rf
  have hl : lv_has ls 6 [(0, .ref (h 1)), (1, .int (nI (b))), (2, .int (nI (a))), (3, .int (nI (k)))] := hl
  refine lv_aload_n hx hb d_B_sumWithout_0 rfl (lv_at hl 0 rfl) ?_
  refine lv_iconst (v := -1) hx hb d_B_sumWithout_1 rfl ?_
  refine lv_iload_n hx hb d_B_sumWithout_2 rfl (lv_at hl 2 rfl) ?_
  refine lv_iload_n hx hb d_B_sumWithout_3 rfl (lv_at hl 1 rfl) ?_
  refine lv_iload_n hx hb d_B_sumWithout_4 rfl (lv_at hl 2 rfl) ?_
  refine lv_isubN hx hb d_B_sumWithout_5 (h2) ?_
  refine g_callVi (As := [.int (-1), .int (nI (a)), .int (nI (b - a))]) (rest := []) ⟨hx, hb, hml, hown, hts⟩ (C := R_B) (index := 19) (c_B_addBytes l D h cA n tb A hn hn2 (d) (-1) (a) (b - a) (by omega)) (cwV 3 hts (gd_V m_202 m_204 m_5 m_31 m_205) rfl rfl rfl hd_B_addBytes ⟨Nat.le_of_ble_eq_true rfl, Nat.le_of_ble_eq_true rfl⟩) cW_w cX_x hB hP hS (ci := 1) rfl (1) rfl rfl hl.1 rfl (Nat.le_of_ble_eq_true rfl) d_B_sumWithout_6 ⟨Nat.zero_le _, Nat.zero_le _⟩ (fun r_ v_ H locs hw hP hS => ?_)
  obtain ⟨hw1, hw2⟩ := hw; have hw1 := hw1.symm; have hw2 := hw2.symm; subst hw1; subst hw2
  refine lv_istore (lv' := [(4, .int (crc d (-1) a (b - a))), (0, .ref (h 1)), (1, .int (nI (b))), (2, .int (nI (a))), (3, .int (nI (k)))]) hx hb d_B_sumWithout_9 hl (by decide) rfl (fun ls hl => ?_)
  refine lv_iconst (v := nI 0) hx hb d_B_sumWithout_11 rfl ?_
  refine lv_istore (lv' := [(5, .int (nI (0))), (4, .int (crc d (-1) a (b - a))), (0, .ref (h 1)), (1, .int (nI (b))), (2, .int (nI (a))), (3, .int (nI (k)))]) hx hb d_B_sumWithout_12 hl (by decide) rfl (fun ls hl => ?_)
  refine lv_iload hx hb d_B_sumWithout_14 (lv_at hl 0 rfl) ?_
  refine lv_iconst (v := nI 4) hx hb d_B_sumWithout_16 rfl ?_
  refine lv_icmp_ge (tgt := 34) hx hb d_B_sumWithout_17 (by decide) (fun c9 => absurd c9 (by decide)) (fun _ => ?_)
  refine lv_iload hx hb d_B_sumWithout_20 (lv_at hl 1 rfl) ?_
  refine lv_iconst (v := nI 0) hx hb d_B_sumWithout_22 rfl ?_
  refine g_callSi (As := [.int (crc d (-1) a (b - a)), .int (nI (0))]) (rest := []) ⟨hx, hb, hml, hown, hts⟩ (index := 23) (c_B_addByte l D h cA n tb A hn hn2 (d) (crc d (-1) a (b - a)) ((nI (0)))) (cwS 2 hts (gd_S m_206 m_207 m_31 m_208) rfl rfl rfl hd_B_addByte ⟨Nat.le_of_ble_eq_true rfl, Nat.le_of_ble_eq_true rfl⟩) cW_w cX_x hB hP hS rfl hl.1 rfl (Nat.le_of_ble_eq_true rfl) d_B_sumWithout_23 ⟨Nat.zero_le _, Nat.zero_le _⟩ (fun r_ v_ H locs hw hP hS => ?_)
  obtain ⟨hw1, hw2⟩ := hw; have hw1 := hw1.symm; have hw2 := hw2.symm; subst hw1; subst hw2
  refine lv_istore (lv' := [(4, .int (adB (crc d (-1) a (b - a)) ((nI (0))))), (5, .int (nI (0))), (0, .ref (h 1)), (1, .int (nI (b))), (2, .int (nI (a))), (3, .int (nI (k)))]) hx hb d_B_sumWithout_26 hl (by decide) rfl (fun ls hl => ?_)
  refine lv_iinc (v := (nI (0 + 1))) (lv' := [(5, .int (nI (0 + 1))), (4, .int (adB (crc d (-1) a (b - a)) ((nI (0))))), (0, .ref (h 1)), (1, .int (nI (b))), (2, .int (nI (a))), (3, .int (nI (k)))]) hx hb d_B_sumWithout_28 hl (k := 1) rfl (nI_add _ _) (by decide) rfl (fun ls hl => ?_)
  refine lv_goto (tgt := 14) hx hb d_B_sumWithout_31 (by decide) ?_
  refine lv_iload hx hb d_B_sumWithout_14 (lv_at hl 0 rfl) ?_
  refine lv_iconst (v := nI 4) hx hb d_B_sumWithout_16 rfl ?_
  refine lv_icmp_ge (tgt := 34) hx hb d_B_sumWithout_17 (by decide) (fun c9 => absurd c9 (by decide)) (fun _ => ?_)
  refine lv_iload hx hb d_B_sumWithout_20 (lv_at hl 1 rfl) ?_
  refine lv_iconst (v := nI 0) hx hb d_B_sumWithout_22 rfl ?_
  refine g_callSi (As := [.int (adB (crc d (-1) a (b - a)) ((nI (0)))), .int (nI (0))]) (rest := []) ⟨hx, hb, hml, hown, hts⟩ (index := 23) (c_B_addByte l D h cA n tb A hn hn2 (d) (adB (crc d (-1) a (b - a)) ((nI (0)))) ((nI (0)))) (cwS 2 hts (gd_S m_206 m_207 m_31 m_208) rfl rfl rfl hd_B_addByte ⟨Nat.le_of_ble_eq_true rfl, Nat.le_of_ble_eq_true rfl⟩) cW_w cX_x hB hP hS rfl hl.1 rfl (Nat.le_of_ble_eq_true rfl) d_B_sumWithout_23 ⟨Nat.zero_le _, Nat.zero_le _⟩ (fun r_ v_ H locs hw hP hS => ?_)
  obtain ⟨hw1, hw2⟩ := hw; have hw1 := hw1.symm; have hw2 := hw2.symm; subst hw1; subst hw2
  refine lv_istore (lv' := [(4, .int (adB (adB (crc d (-1) a (b - a)) ((nI (0)))) ((nI (0))))), (5, .int (nI (0 + 1))), (0, .ref (h 1)), (1, .int (nI (b))), (2, .int (nI (a))), (3, .int (nI (k)))]) hx hb d_B_sumWithout_26 hl (by decide) rfl (fun ls hl => ?_)
  refine lv_iinc (v := (nI (0 + 1 + 1))) (lv' := [(5, .int (nI (0 + 1 + 1))), (4, .int (adB (adB (crc d (-1) a (b - a)) ((nI (0)))) ((nI (0))))), (0, .ref (h 1)), (1, .int (nI (b))), (2, .int (nI (a))), (3, .int (nI (k)))]) hx hb d_B_sumWithout_28 hl (k := 1) rfl (nI_add _ _) (by decide) rfl (fun ls hl => ?_)
  refine lv_goto (tgt := 14) hx hb d_B_sumWithout_31 (by decide) ?_
  refine lv_iload hx hb d_B_sumWithout_14 (lv_at hl 0 rfl) ?_
  refine lv_iconst (v := nI 4) hx hb d_B_sumWithout_16 rfl ?_
  refine lv_icmp_ge (tgt := 34) hx hb d_B_sumWithout_17 (by decide) (fun c9 => absurd c9 (by decide)) (fun _ => ?_)
  refine lv_iload hx hb d_B_sumWithout_20 (lv_at hl 1 rfl) ?_
  refine lv_iconst (v := nI 0) hx hb d_B_sumWithout_22 rfl ?_
  refine g_callSi (As := [.int (adB (adB (crc d (-1) a (b - a)) ((nI (0)))) ((nI (0)))), .int (nI (0))]) (rest := []) ⟨hx, hb, hml, hown, hts⟩ (index := 23) (c_B_addByte l D h cA n tb A hn hn2 (d) (adB (adB (crc d (-1) a (b - a)) ((nI (0)))) ((nI (0)))) ((nI (0)))) (cwS 2 hts (gd_S m_206 m_207 m_31 m_208) rfl rfl rfl hd_B_addByte ⟨Nat.le_of_ble_eq_true rfl, Nat.le_of_ble_eq_true rfl⟩) cW_w cX_x hB hP hS rfl hl.1 rfl (Nat.le_of_ble_eq_true rfl) d_B_sumWithout_23 ⟨Nat.zero_le _, Nat.zero_le _⟩ (fun r_ v_ H locs hw hP hS => ?_)
  obtain ⟨hw1, hw2⟩ := hw; have hw1 := hw1.symm; have hw2 := hw2.symm; subst hw1; subst hw2
  refine lv_istore (lv' := [(4, .int (adB (adB (adB (crc d (-1) a (b - a)) ((nI (0)))) ((nI (0)))) ((nI (0))))), (5, .int (nI (0 + 1 + 1))), (0, .ref (h 1)), (1, .int (nI (b))), (2, .int (nI (a))), (3, .int (nI (k)))]) hx hb d_B_sumWithout_26 hl (by decide) rfl (fun ls hl => ?_)
  refine lv_iinc (v := (nI (0 + 1 + 1 + 1))) (lv' := [(5, .int (nI (0 + 1 + 1 + 1))), (4, .int (adB (adB (adB (crc d (-1) a (b - a)) ((nI (0)))) ((nI (0)))) ((nI (0))))), (0, .ref (h 1)), (1, .int (nI (b))), (2, .int (nI (a))), (3, .int (nI (k)))]) hx hb d_B_sumWithout_28 hl (k := 1) rfl (nI_add _ _) (by decide) rfl (fun ls hl => ?_)
  refine lv_goto (tgt := 14) hx hb d_B_sumWithout_31 (by decide) ?_
  refine lv_iload hx hb d_B_sumWithout_14 (lv_at hl 0 rfl) ?_
  refine lv_iconst (v := nI 4) hx hb d_B_sumWithout_16 rfl ?_
  refine lv_icmp_ge (tgt := 34) hx hb d_B_sumWithout_17 (by decide) (fun c9 => absurd c9 (by decide)) (fun _ => ?_)
  refine lv_iload hx hb d_B_sumWithout_20 (lv_at hl 1 rfl) ?_
  refine lv_iconst (v := nI 0) hx hb d_B_sumWithout_22 rfl ?_
  refine g_callSi (As := [.int (adB (adB (adB (crc d (-1) a (b - a)) ((nI (0)))) ((nI (0)))) ((nI (0)))), .int (nI (0))]) (rest := []) ⟨hx, hb, hml, hown, hts⟩ (index := 23) (c_B_addByte l D h cA n tb A hn hn2 (d) (adB (adB (adB (crc d (-1) a (b - a)) ((nI (0)))) ((nI (0)))) ((nI (0)))) ((nI (0)))) (cwS 2 hts (gd_S m_206 m_207 m_31 m_208) rfl rfl rfl hd_B_addByte ⟨Nat.le_of_ble_eq_true rfl, Nat.le_of_ble_eq_true rfl⟩) cW_w cX_x hB hP hS rfl hl.1 rfl (Nat.le_of_ble_eq_true rfl) d_B_sumWithout_23 ⟨Nat.zero_le _, Nat.zero_le _⟩ (fun r_ v_ H locs hw hP hS => ?_)
  obtain ⟨hw1, hw2⟩ := hw; have hw1 := hw1.symm; have hw2 := hw2.symm; subst hw1; subst hw2
  refine lv_istore (lv' := [(4, .int (adB (adB (adB (adB (crc d (-1) a (b - a)) ((nI (0)))) ((nI (0)))) ((nI (0)))) ((nI (0))))), (5, .int (nI (0 + 1 + 1 + 1))), (0, .ref (h 1)), (1, .int (nI (b))), (2, .int (nI (a))), (3, .int (nI (k)))]) hx hb d_B_sumWithout_26 hl (by decide) rfl (fun ls hl => ?_)
  refine lv_iinc (v := (nI (0 + 1 + 1 + 1 + 1))) (lv' := [(5, .int (nI (0 + 1 + 1 + 1 + 1))), (4, .int (adB (adB (adB (adB (crc d (-1) a (b - a)) ((nI (0)))) ((nI (0)))) ((nI (0)))) ((nI (0))))), (0, .ref (h 1)), (1, .int (nI (b))), (2, .int (nI (a))), (3, .int (nI (k)))]) hx hb d_B_sumWithout_28 hl (k := 1) rfl (nI_add _ _) (by decide) rfl (fun ls hl => ?_)
  refine lv_goto (tgt := 14) hx hb d_B_sumWithout_31 (by decide) ?_
  refine lv_iload hx hb d_B_sumWithout_14 (lv_at hl 0 rfl) ?_
  refine lv_iconst (v := nI 4) hx hb d_B_sumWithout_16 rfl ?_
  refine lv_icmp_ge (tgt := 34) hx hb d_B_sumWithout_17 (by decide) (fun _ => ?_) (fun c9 => absurd (by decide) c9)
  refine lv_iconst (v := -1) hx hb d_B_sumWithout_34 rfl ?_
  refine lv_aload_n hx hb d_B_sumWithout_35 rfl (lv_at hl 2 rfl) ?_
  refine lv_iload hx hb d_B_sumWithout_36 (lv_at hl 1 rfl) ?_
  refine lv_iload_n hx hb d_B_sumWithout_38 rfl (lv_at hl 3 rfl) ?_
  refine lv_iconst (v := nI 4) hx hb d_B_sumWithout_39 rfl ?_
  refine lv_iaddN hx hb d_B_sumWithout_40 ?_
  refine lv_iload_n hx hb d_B_sumWithout_41 rfl (lv_at hl 4 rfl) ?_
  refine lv_iload_n hx hb d_B_sumWithout_42 rfl (lv_at hl 5 rfl) ?_
  refine lv_iaddN hx hb d_B_sumWithout_43 ?_
  refine lv_iload_n hx hb d_B_sumWithout_44 rfl (lv_at hl 3 rfl) ?_
  refine lv_isubN hx hb d_B_sumWithout_45 (by omega) ?_
  refine lv_iconst (v := nI 4) hx hb d_B_sumWithout_46 rfl ?_
  refine lv_isubN hx hb d_B_sumWithout_47 (by omega) ?_
  refine g_callVi (As := [.int (adB (adB (adB (adB (crc d (-1) a (b - a)) ((nI (0)))) ((nI (0)))) ((nI (0)))) ((nI (0)))), .int (nI (b + 4)), .int (nI (((a + k) - b) - 4))]) (rest := [.int (-1)]) ⟨hx, hb, hml, hown, hts⟩ (C := R_B) (index := 19) (c_B_addBytes l D h cA n tb A hn hn2 (d) (adB (adB (adB (adB (crc d (-1) a (b - a)) ((nI (0)))) ((nI (0)))) ((nI (0)))) ((nI (0)))) (b + 4) (((a + k) - b) - 4) (by omega)) (cwV 3 hts (gd_V m_202 m_204 m_5 m_31 m_205) rfl rfl rfl hd_B_addBytes ⟨Nat.le_of_ble_eq_true rfl, Nat.le_of_ble_eq_true rfl⟩) cW_w cX_x hB hP hS (ci := 1) rfl (1) rfl rfl hl.1 rfl (Nat.le_of_ble_eq_true rfl) d_B_sumWithout_48 ⟨Nat.zero_le _, Nat.zero_le _⟩ (fun r_ v_ H locs hw hP hS => ?_)
  obtain ⟨hw1, hw2⟩ := hw; have hw1 := hw1.symm; have hw2 := hw2.symm; subst hw1; subst hw2
  refine lv_isub hx hb d_B_sumWithout_51 ?_
  exact g_iret (v := ((-1) - (crc d (adB (adB (adB (adB (crc d (-1) a (b - a)) ((nI (0)))) ((nI (0)))) ((nI (0)))) ((nI (0)))) (b + 4) (((a + k) - b) - 4)))) hx hb hr hlk cW_w cX_x hB hP hS (⟨rfl, rfl⟩) d_B_sumWithout_52
