theorem va_up_same {α : Type} (f : Nat → α) (i : Nat) : va_up f i (f i) = f := by
  funext j
  unfold va_up
  split
  · rename_i z; rw [z]
  · rfl
abbrev w_M_get : List Cond := .code y_M_get b_M_get 6 (some .long) :: ALL
abbrev rm_M_get : Room := { frames := 0, cells := 0, slots := 0, locals := 0 }
theorem hd_M_get : y_M_get.cls = R_M ∧ y_M_get.cls ≠ "java/lang/invoke/MethodHandle" ∧ y_M_get.cls ≠ "java/lang/invoke/VarHandle" ∧ (parseMethodDescriptor y_M_get.desc).map (fun d => d.parameters.length) = some 3 := by decide +kernel
set_option maxHeartbeats 4000000 in
set_option maxRecDepth 100000 in
theorem c_M_get (l : Launch) (D : va_G) (k : Nat → Nat) (cI : Nat → ClassId) (n : Nat) (A : Nat → Prop) (hn : 12 ≤ n) (hn2 : n ≤ 24) (u : Nat → Nat → BitVec 8) (i : Nat) (h1 : 1 ≤ i) (h3 : i ≤ 3) (a b : Nat) (hk : a + b ≤ mSz i) : Met l y_M_get w_M_get rm_M_get (va_Pc [.ref (k i), .int (nI (a)), .int (nI (b))] (mB D k cI n A u)) (va_Ql (fun r v => r = num (u i) a b ∧ v = u) (mB D k cI n A) A) 0 0 A := by
  refine g_ofW (cc := b_M_get) (maxL := 6) (ret := (some .long)) (by decide) rfl (Nat.le_of_ble_eq_true rfl) ?_
  intro p e s m below meth c ls hx hb hml hr hlk hown hts hnm hB hl
  have hown : s.vm.findClass R_M = some m.cls := hown
  have hP := hB.1
  have hK := hB.2.1
  have hS : va_S A s.heap s.heap [] := va_S.rf
  have hl : lv_has ls 6 [(0, .ref (k i)), (1, .int (nI (a))), (2, .int (nI (b)))] := hl
  have hz := mSz_lt i
  have z1 : mSz 1 = 12288 := rfl
  have z2 : mSz 2 = 1024 := rfl
  have z3 : mSz 3 = 16 := rfl
  refine lv_lconst (v := 0) hx hb d_M_get_0 rfl ?_
  refine lv_lstore_n (lv' := [(3, .long (0)), (0, .ref (k i)), (1, .int (nI (a))), (2, .int (nI (b)))]) hx hb d_M_get_1 rfl hl (by decide) rfl (fun ls hl => ?_)
  refine lv_iload_n hx hb d_M_get_2 rfl (lv_at hl 3 rfl) ?_
  refine lv_iconst (v := nI 1) hx hb d_M_get_3 rfl ?_
  refine lv_isub hx hb d_M_get_4 ?_
  refine lv_istore (lv' := [(5, .int ((nI (b)) - (nI (1)))), (3, .long (0)), (0, .ref (k i)), (1, .int (nI (a))), (2, .int (nI (b)))]) hx hb d_M_get_5 hl (by decide) rfl (fun ls hl => ?_)
  have lp : ∀ (q : Nat) (j : Nat) (x : Int64) (H : Heap) (locs : List Loc) (ls : Array Slot), (j ≤ b) → (j + 1 ≤ q) → (x = num (u i) (a + j) (b - j)) → va_P D classes (mW k cI n (u)) H → va_S A s.heap H locs → lv_has ls 6 [(5, .int (nI j - nI 1)), (3, .long (x)), (0, .ref (k i)), (1, .int (nI (a))), (2, .int (nI (b)))] → W p l e rm_M_get s m ([.ref (k i), .int (nI (a)), .int (nI (b))] : List Value).toArray below meth c H locs 0 0 (MQ below (va_Ql (fun r v => r = num (u i) a b ∧ v = u) (mB D k cI n A) A) ([.ref (k i), .int (nI (a)), .int (nI (b))] : List Value).toArray s 0 0 A) (F0 m 7 ls []) := by
    intro q
    induction q with
    | zero =>
      intro j x H locs ls hi hq hv hP hS hl
      exact absurd hq (by omega)
    | succ q ih =>
      intro j x H locs ls hi hq hv hP hS hl
      refine lv_iload hx hb d_M_get_7 (lv_at hl 0 rfl) ?_
      refine lv_if_lt (tgt := 31) hx hb d_M_get_9 (by decide) (fun c_9 => ?_) (fun c_9 => ?_)
      · have h0 : j = 0 := dn_t (by omega) c_9
        refine lv_lload_n hx hb d_M_get_31 rfl (lv_at hl 1 rfl) ?_
        exact g_lret (v := (x)) hx hb hr hlk mW_w mX_x hB hP hS (⟨by rw [hv, h0]; rfl, rfl⟩) d_M_get_32
      · obtain ⟨z, rfl⟩ := dn_f c_9
        rw [show nI (z + 1) - nI 1 = nI z from nI_pred z] at hl
        refine lv_lload_n hx hb d_M_get_12 rfl (lv_at hl 1 rfl) ?_
        refine lv_bipush (v := nI 8) hx hb d_M_get_13 rfl ?_
        refine lv_lshl hx hb d_M_get_15 rfl ?_
        refine lv_aload_n hx hb d_M_get_16 rfl (lv_at hl 2 rfl) ?_
        refine lv_iload_n hx hb d_M_get_17 rfl (lv_at hl 3 rfl) ?_
        refine lv_iload hx hb d_M_get_18 (lv_at hl 0 rfl) ?_
        refine lv_iaddN hx hb d_M_get_20 ?_
        refine m_iald hx hb hB hP (i := i) h1 h3 (a := a + z) (by omega) d_M_get_21 ?_
        refine lv_i2l hx hb d_M_get_22 rfl ?_
        refine lv_lor hx hb d_M_get_23 ?_
        refine lv_lstore_n (lv' := [(3, .long (((x) <<< ((nI (8)).toInt64 &&& 63)) ||| ((zx (u i (a + z))).toInt64))), (5, .int (nI (z))), (0, .ref (k i)), (1, .int (nI (a))), (2, .int (nI (b)))]) hx hb d_M_get_24 rfl hl (by decide) rfl (fun ls hl => ?_)
        refine lv_iinc (v := (nI z - nI 1)) (lv' := [(5, .int (nI z - nI 1)), (3, .long (((x) <<< ((nI (8)).toInt64 &&& 63)) ||| ((zx (u i (a + z))).toInt64))), (0, .ref (k i)), (1, .int (nI (a))), (2, .int (nI (b)))]) hx hb d_M_get_25 hl (k := 1) rfl (nI_m1 _) (by decide) rfl (fun ls hl => ?_)
        refine lv_goto (tgt := 7) hx hb d_M_get_28 (by decide) ?_
        exact ih z _ _ _ _ (by omega) (by omega) (by rw [hv]; exact num_step hi) hP hS (lv_sub hl [0, 1, 2, 3, 4] rfl)
  exact lp (b + 1) b 0 _ _ _ (Nat.le_refl _) (Nat.le_refl _) (by rw [Nat.sub_self]; rfl) hP hS (lv_sub hl [0, 1, 2, 3, 4] rfl)
abbrev w_M_put : List Cond := .code y_M_put b_M_put 6 none :: ALL
abbrev rm_M_put : Room := { frames := 0, cells := 0, slots := 0, locals := 0 }
theorem hd_M_put : y_M_put.cls = R_M ∧ y_M_put.cls ≠ "java/lang/invoke/MethodHandle" ∧ y_M_put.cls ≠ "java/lang/invoke/VarHandle" ∧ (parseMethodDescriptor y_M_put.desc).map (fun d => d.parameters.length) = some 4 := by decide +kernel
set_option maxHeartbeats 4000000 in
set_option maxRecDepth 100000 in
theorem c_M_put (l : Launch) (D : va_G) (k : Nat → Nat) (cI : Nat → ClassId) (n : Nat) (A : Nat → Prop) (hn : 12 ≤ n) (hn2 : n ≤ 24) (u : Nat → Nat → BitVec 8) (i : Nat) (h1 : 1 ≤ i) (h3 : i ≤ 3) (a b : Nat) (x : Int64) (hk : a + b ≤ mSz i) (h8 : b ≤ 8) : Met l y_M_put w_M_put rm_M_put (va_Pc [.ref (k i), .int (nI (a)), .int (nI (b)), .long (x)] (mB D k cI n A u)) (va_Qv (fun v => v = va_up u i (setN (u i) a b x)) (mB D k cI n A) A) 0 0 A := by
  refine g_ofW (cc := b_M_put) (maxL := 6) (ret := none) (by decide) rfl (Nat.le_of_ble_eq_true rfl) ?_
  intro p e s m below meth c ls hx hb hml hr hlk hown hts hnm hB hl
  have hown : s.vm.findClass R_M = some m.cls := hown
  have hP := hB.1
  have hK := hB.2.1
  have hS : va_S A s.heap s.heap [] := va_S.rf
  have hl : lv_has ls 6 [(0, .ref (k i)), (1, .int (nI (a))), (2, .int (nI (b))), (3, .long (x))] := hl
  have hz := mSz_lt i
  have z1 : mSz 1 = 12288 := rfl
  have z2 : mSz 2 = 1024 := rfl
  have z3 : mSz 3 = 16 := rfl
  refine lv_iconst (v := nI 0) hx hb d_M_put_0 rfl ?_
  refine lv_istore (lv' := [(5, .int (nI (0))), (0, .ref (k i)), (1, .int (nI (a))), (2, .int (nI (b))), (3, .long (x))]) hx hb d_M_put_1 hl (by decide) rfl (fun ls hl => ?_)
  rw [show u = va_up u i (setN (u i) a 0 x) by rw [setN_0, va_up_same]] at hP
  have lp : ∀ (q : Nat) (j : Nat) (H : Heap) (locs : List Loc) (ls : Array Slot), (j ≤ b) → (b + 1 ≤ j + q) → va_P D classes (mW k cI n (va_up u i (setN (u i) a j x))) H → va_S A s.heap H locs → lv_has ls 6 [(5, .int (nI (j))), (0, .ref (k i)), (1, .int (nI (a))), (2, .int (nI (b))), (3, .long (x))] → W p l e rm_M_put s m ([.ref (k i), .int (nI (a)), .int (nI (b)), .long (x)] : List Value).toArray below meth c H locs 0 0 (MQ below (va_Qv (fun v => v = va_up u i (setN (u i) a b x)) (mB D k cI n A) A) ([.ref (k i), .int (nI (a)), .int (nI (b)), .long (x)] : List Value).toArray s 0 0 A) (F0 m 3 ls []) := by
    intro q
    induction q with
    | zero =>
      intro j H locs ls hi hq hP hS hl
      exact absurd hq (by omega)
    | succ q ih =>
      intro j H locs ls hi hq hP hS hl
      refine lv_iload hx hb d_M_put_3 (lv_at hl 0 rfl) ?_
      refine lv_iload_n hx hb d_M_put_5 rfl (lv_at hl 3 rfl) ?_
      refine lv_icmp_ge (tgt := 33) hx hb d_M_put_6 (by decide) (fun c_6 => ?_) (fun c_6 => ?_)
      · have hik : j = b := ge_t hi (by omega) c_6
        exact g_vret hx hb hr hlk mW_w mX_x hB hP hS (by rw [hik]) d_M_put_33
      · have hik : j < b := ge_f (by omega) (by omega) c_6
        refine lv_aload_n hx hb d_M_put_9 rfl (lv_at hl 1 rfl) ?_
        refine lv_iload_n hx hb d_M_put_10 rfl (lv_at hl 2 rfl) ?_
        refine lv_iload hx hb d_M_put_11 (lv_at hl 0 rfl) ?_
        refine lv_iaddN hx hb d_M_put_13 ?_
        refine lv_lload_n hx hb d_M_put_14 rfl (lv_at hl 4 rfl) ?_
        refine lv_bipush (v := nI 8) hx hb d_M_put_15 rfl ?_
        refine lv_iload hx hb d_M_put_17 (lv_at hl 0 rfl) ?_
        refine lv_imulN hx hb d_M_put_19 ?_
        refine lv_lshr hx hb d_M_put_20 rfl ?_
        refine lv_ldc2 (v := 255) hx hb hown (hts _ (.tail _ m_516)) d_M_put_21 ?_
        refine lv_land hx hb d_M_put_24 ?_
        refine lv_l2i hx hb d_M_put_25 rfl ?_
        refine m_iast hx hb hB hP hS (i := i) h1 h3 (a := a + j) (y := byt x j) (put_byt x (by omega)) (by omega) d_M_put_26 (fun H locs hP hS => ?_)
        rw [bx_uu, va_up_self, setN_s] at hP
        refine lv_iinc (v := (nI (j + 1))) (lv' := [(5, .int (nI (j + 1))), (0, .ref (k i)), (1, .int (nI (a))), (2, .int (nI (b))), (3, .long (x))]) hx hb d_M_put_27 hl (k := 0) rfl (nI_add _ _) (by decide) rfl (fun ls hl => ?_)
        refine lv_goto (tgt := 3) hx hb d_M_put_30 (by decide) ?_
        exact ih (j + 1) _ _ _ (by omega) (by omega) hP hS (lv_sub hl [0, 1, 2, 3, 4] rfl)
  exact lp (b + 1) 0 _ _ _ (Nat.zero_le _) (by omega) hP hS (lv_sub hl [0, 1, 2, 3, 4] rfl)
abbrev w_M_putGuid : List Cond := .code y_M_putGuid b_M_putGuid 4 none :: ALL
abbrev rm_M_putGuid : Room := { frames := 1, cells := 0, slots := 0, locals := 25 }
theorem hd_M_putGuid : y_M_putGuid.cls = R_M ∧ y_M_putGuid.cls ≠ "java/lang/invoke/MethodHandle" ∧ y_M_putGuid.cls ≠ "java/lang/invoke/VarHandle" ∧ (parseMethodDescriptor y_M_putGuid.desc).map (fun d => d.parameters.length) = some 3 := by decide +kernel
set_option maxHeartbeats 4000000 in
set_option maxRecDepth 100000 in
theorem c_M_putGuid (l : Launch) (D : va_G) (k : Nat → Nat) (cI : Nat → ClassId) (n : Nat) (A : Nat → Prop) (hn : 12 ≤ n) (hn2 : n ≤ 24) (u : Nat → Nat → BitVec 8) (i : Nat) (h1 : 1 ≤ i) (h3 : i ≤ 3) (a : Nat) (x : Int64) (hk : a + 16 ≤ mSz i) : Met l y_M_putGuid w_M_putGuid rm_M_putGuid (va_Pc [.ref (k i), .int (nI (a)), .long (x)] (mB D k cI n A u)) (va_Qv (fun v => v = va_up u i (guid (u i) a x)) (mB D k cI n A) A) 0 0 A := by
  refine g_ofW (cc := b_M_putGuid) (maxL := 4) (ret := none) (by decide) rfl (Nat.le_of_ble_eq_true rfl) ?_
  intro p e s m below meth c ls hx hb hml hr hlk hown hts hnm hB hl
  have hown : s.vm.findClass R_M = some m.cls := hown
  have hP := hB.1
  have hK := hB.2.1
  have hS : va_S A s.heap s.heap [] := va_S.rf
  have hl : lv_has ls 4 [(0, .ref (k i)), (1, .int (nI (a))), (2, .long (x))] := hl
  have hz := mSz_lt i
  have z1 : mSz 1 = 12288 := rfl
  have z2 : mSz 2 = 1024 := rfl
  have z3 : mSz 3 = 16 := rfl
  refine lv_aload_n hx hb d_M_putGuid_0 rfl (lv_at hl 0 rfl) ?_
  refine lv_iload_n hx hb d_M_putGuid_1 rfl (lv_at hl 1 rfl) ?_
  refine lv_bipush (v := nI 8) hx hb d_M_putGuid_2 rfl ?_
  refine lv_lload_n hx hb d_M_putGuid_4 rfl (lv_at hl 2 rfl) ?_
  refine g_callSv (As := [.ref (k i), .int (nI (a)), .int (nI (8)), .long (x)]) (rest := []) ⟨hx, hb, hml, hown, hts⟩ (index := 29) (c_M_put l D k cI n A hn hn2 (u) (i) (by omega) (by omega) (a) (8) (x) (by omega) (by omega)) (cwS 4 hts (gd_S m_513 m_514 m_33 m_515) rfl rfl rfl hd_M_put ⟨Nat.le_of_ble_eq_true rfl, Nat.le_of_ble_eq_true rfl⟩) mW_w mX_x hB hP hS rfl hl.1 rfl (Nat.le_of_ble_eq_true rfl) d_M_putGuid_5 ⟨Nat.zero_le _, Nat.zero_le _⟩ (fun v_ H locs hw hP hS => ?_)
  have hw := hw.symm; subst hw
  refine lv_aload_n hx hb d_M_putGuid_8 rfl (lv_at hl 0 rfl) ?_
  refine lv_iload_n hx hb d_M_putGuid_9 rfl (lv_at hl 1 rfl) ?_
  refine lv_bipush (v := nI 8) hx hb d_M_putGuid_10 rfl ?_
  refine lv_iaddN hx hb d_M_putGuid_12 ?_
  refine lv_bipush (v := nI 8) hx hb d_M_putGuid_13 rfl ?_
  refine lv_lload_n hx hb d_M_putGuid_15 rfl (lv_at hl 2 rfl) ?_
  refine lv_ldc2 (v := 2862933555777941757) hx hb hown (hts _ (.tail _ m_528)) d_M_putGuid_16 ?_
  refine lv_lmul hx hb d_M_putGuid_19 ?_
  refine lv_ldc2 (v := 3037000493) hx hb hown (hts _ (.tail _ m_529)) d_M_putGuid_20 ?_
  refine lv_ladd hx hb d_M_putGuid_23 ?_
  refine g_callSv (As := [.ref (k i), .int (nI (a + 8)), .int (nI (8)), .long (((x) * (2862933555777941757)) + (3037000493))]) (rest := []) ⟨hx, hb, hml, hown, hts⟩ (index := 29) (c_M_put l D k cI n A hn hn2 (va_up u i (setN ((u i)) a 8 x)) (i) (by omega) (by omega) (a + 8) (8) (((x) * (2862933555777941757)) + (3037000493)) (by omega) (by omega)) (cwS 4 hts (gd_S m_513 m_514 m_33 m_515) rfl rfl rfl hd_M_put ⟨Nat.le_of_ble_eq_true rfl, Nat.le_of_ble_eq_true rfl⟩) mW_w mX_x hB hP hS rfl hl.1 rfl (Nat.le_of_ble_eq_true rfl) d_M_putGuid_24 ⟨Nat.zero_le _, Nat.zero_le _⟩ (fun v_ H locs hw hP hS => ?_)
  have hw := hw.symm; subst hw
  exact g_vret hx hb hr hlk mW_w mX_x hB hP hS (by rw [bx_uu, va_up_self]; rfl) d_M_putGuid_27
abbrev w_M_zeros : List Cond := .code y_M_zeros b_M_zeros 5 (some .boolean) :: ALL
abbrev rm_M_zeros : Room := { frames := 0, cells := 0, slots := 0, locals := 0 }
theorem hd_M_zeros : y_M_zeros.cls = R_M ∧ y_M_zeros.cls ≠ "java/lang/invoke/MethodHandle" ∧ y_M_zeros.cls ≠ "java/lang/invoke/VarHandle" ∧ (parseMethodDescriptor y_M_zeros.desc).map (fun d => d.parameters.length) = some 3 := by decide +kernel
set_option maxHeartbeats 4000000 in
set_option maxRecDepth 100000 in
theorem c_M_zeros (l : Launch) (D : va_G) (k : Nat → Nat) (cI : Nat → ClassId) (n : Nat) (A : Nat → Prop) (hn : 12 ≤ n) (hn2 : n ≤ 24) (u : Nat → Nat → BitVec 8) (i : Nat) (h1 : 1 ≤ i) (h3 : i ≤ 3) (a b : Nat) (hk : a + b ≤ mSz i) : Met l y_M_zeros w_M_zeros rm_M_zeros (va_Pc [.ref (k i), .int (nI (a)), .int (nI (b))] (mB D k cI n A u)) (va_Qi (fun r v => r = bI (isZ (u i) a b) ∧ v = u) (mB D k cI n A) A) 0 0 A := by
  refine g_ofW (cc := b_M_zeros) (maxL := 5) (ret := (some .boolean)) (by decide) rfl (Nat.le_of_ble_eq_true rfl) ?_
  intro p e s m below meth c ls hx hb hml hr hlk hown hts hnm hB hl
  have hown : s.vm.findClass R_M = some m.cls := hown
  have hP := hB.1
  have hK := hB.2.1
  have hS : va_S A s.heap s.heap [] := va_S.rf
  have hl : lv_has ls 5 [(0, .ref (k i)), (1, .int (nI (a))), (2, .int (nI (b)))] := hl
  have hz := mSz_lt i
  have z1 : mSz 1 = 12288 := rfl
  have z2 : mSz 2 = 1024 := rfl
  have z3 : mSz 3 = 16 := rfl
  refine lv_iconst (v := nI 1) hx hb d_M_zeros_0 rfl ?_
  refine lv_istore_n (lv' := [(3, .int (nI (1))), (0, .ref (k i)), (1, .int (nI (a))), (2, .int (nI (b)))]) hx hb d_M_zeros_1 rfl hl (by decide) rfl (fun ls hl => ?_)
  refine lv_iconst (v := nI 0) hx hb d_M_zeros_2 rfl ?_
  refine lv_istore (lv' := [(4, .int (nI (0))), (3, .int (nI (1))), (0, .ref (k i)), (1, .int (nI (a))), (2, .int (nI (b)))]) hx hb d_M_zeros_3 hl (by decide) rfl (fun ls hl => ?_)
  have lp : ∀ (q : Nat) (j : Nat) (x : Int32) (H : Heap) (locs : List Loc) (ls : Array Slot), (j ≤ b) → (b + 1 ≤ j + q) → (x = bI (isZ (u i) a j)) → va_P D classes (mW k cI n (u)) H → va_S A s.heap H locs → lv_has ls 5 [(4, .int (nI (j))), (3, .int (x)), (0, .ref (k i)), (1, .int (nI (a))), (2, .int (nI (b)))] → W p l e rm_M_zeros s m ([.ref (k i), .int (nI (a)), .int (nI (b))] : List Value).toArray below meth c H locs 0 0 (MQ below (va_Qi (fun r v => r = bI (isZ (u i) a b) ∧ v = u) (mB D k cI n A) A) ([.ref (k i), .int (nI (a)), .int (nI (b))] : List Value).toArray s 0 0 A) (F0 m 5 ls []) := by
    intro q
    induction q with
    | zero =>
      intro j x H locs ls hi hq hv hP hS hl
      exact absurd hq (by omega)
    | succ q ih =>
      intro j x H locs ls hi hq hv hP hS hl
      refine lv_iload hx hb d_M_zeros_5 (lv_at hl 0 rfl) ?_
      refine lv_iload_n hx hb d_M_zeros_7 rfl (lv_at hl 4 rfl) ?_
      refine lv_icmp_ge (tgt := 36) hx hb d_M_zeros_8 (by decide) (fun c_8 => ?_) (fun c_8 => ?_)
      · have hik : j = b := ge_t hi (by omega) c_8
        refine lv_iload_n hx hb d_M_zeros_36 rfl (lv_at hl 1 rfl) ?_
        exact g_zret (v := (x)) hx hb hr (by rw [hv]; exact bI_n _) hlk mW_w mX_x hB hP hS (⟨by rw [hv, hik], rfl⟩) d_M_zeros_37
      · have hik : j < b := ge_f (by omega) (by omega) c_8
        refine lv_iload_n hx hb d_M_zeros_11 rfl (lv_at hl 1 rfl) ?_
        refine lv_if_eq (tgt := 28) hx hb d_M_zeros_12 (by decide) (fun c_12 => ?_) (fun c_12 => ?_)
        · refine lv_iconst (v := nI 0) hx hb d_M_zeros_28 rfl ?_
          refine lv_istore_n (lv' := [(3, .int (nI (0))), (4, .int (nI (j))), (0, .ref (k i)), (1, .int (nI (a))), (2, .int (nI (b)))]) hx hb d_M_zeros_29 rfl hl (by decide) rfl (fun ls hl => ?_)
          refine lv_iinc (v := (nI (j + 1))) (lv' := [(4, .int (nI (j + 1))), (3, .int (nI (0))), (0, .ref (k i)), (1, .int (nI (a))), (2, .int (nI (b)))]) hx hb d_M_zeros_30 hl (k := 1) rfl (nI_add _ _) (by decide) rfl (fun ls hl => ?_)
          refine lv_goto (tgt := 5) hx hb d_M_zeros_33 (by decide) ?_
          exact ih (j + 1) _ _ _ _ (by omega) (by omega) (bI_f (fun z => bI_x hv c_12 (isZ_s.mp z).1)).symm hP hS (lv_sub hl [0, 1, 2, 3, 4] rfl)
        · refine lv_aload_n hx hb d_M_zeros_15 rfl (lv_at hl 2 rfl) ?_
          refine lv_iload_n hx hb d_M_zeros_16 rfl (lv_at hl 3 rfl) ?_
          refine lv_iload hx hb d_M_zeros_17 (lv_at hl 0 rfl) ?_
          refine lv_iaddN hx hb d_M_zeros_19 ?_
          refine m_iald hx hb hB hP (i := i) h1 h3 (a := a + j) (by omega) d_M_zeros_20 ?_
          refine lv_if_ne (tgt := 28) hx hb d_M_zeros_21 (by decide) (fun c_21 => ?_) (fun c_21 => ?_)
          · refine lv_iconst (v := nI 0) hx hb d_M_zeros_28 rfl ?_
            refine lv_istore_n (lv' := [(3, .int (nI (0))), (4, .int (nI (j))), (0, .ref (k i)), (1, .int (nI (a))), (2, .int (nI (b)))]) hx hb d_M_zeros_29 rfl hl (by decide) rfl (fun ls hl => ?_)
            refine lv_iinc (v := (nI (j + 1))) (lv' := [(4, .int (nI (j + 1))), (3, .int (nI (0))), (0, .ref (k i)), (1, .int (nI (a))), (2, .int (nI (b)))]) hx hb d_M_zeros_30 hl (k := 1) rfl (nI_add _ _) (by decide) rfl (fun ls hl => ?_)
            refine lv_goto (tgt := 5) hx hb d_M_zeros_33 (by decide) ?_
            exact ih (j + 1) _ _ _ _ (by omega) (by omega) (bI_f (fun z => c_21 ((zx_0 _).mpr (isZ_s.mp z).2))).symm hP hS (lv_sub hl [0, 1, 2, 3, 4] rfl)
          · refine lv_iconst (v := nI 1) hx hb d_M_zeros_24 rfl ?_
            refine lv_goto (tgt := 29) hx hb d_M_zeros_25 (by decide) ?_
            refine lv_istore_n (lv' := [(3, .int (nI (1))), (4, .int (nI (j))), (0, .ref (k i)), (1, .int (nI (a))), (2, .int (nI (b)))]) hx hb d_M_zeros_29 rfl hl (by decide) rfl (fun ls hl => ?_)
            refine lv_iinc (v := (nI (j + 1))) (lv' := [(4, .int (nI (j + 1))), (3, .int (nI (1))), (0, .ref (k i)), (1, .int (nI (a))), (2, .int (nI (b)))]) hx hb d_M_zeros_30 hl (k := 1) rfl (nI_add _ _) (by decide) rfl (fun ls hl => ?_)
            refine lv_goto (tgt := 5) hx hb d_M_zeros_33 (by decide) ?_
            exact ih (j + 1) _ _ _ _ (by omega) (by omega) (bI_t (isZ_s.mpr ⟨bI_y hv c_12, (zx_0 _).mp c_21⟩)).symm hP hS (lv_sub hl [0, 1, 2, 3, 4] rfl)
  exact lp (b + 1) 0 _ _ _ _ (Nat.zero_le _) (by omega) (bI_t lt_0).symm hP hS (lv_sub hl [0, 1, 2, 3, 4] rfl)
abbrev w_M_same : List Cond := .code y_M_same b_M_same 7 (some .boolean) :: ALL
abbrev rm_M_same : Room := { frames := 0, cells := 0, slots := 0, locals := 0 }
theorem hd_M_same : y_M_same.cls = R_M ∧ y_M_same.cls ≠ "java/lang/invoke/MethodHandle" ∧ y_M_same.cls ≠ "java/lang/invoke/VarHandle" ∧ (parseMethodDescriptor y_M_same.desc).map (fun d => d.parameters.length) = some 5 := by decide +kernel
set_option maxHeartbeats 4000000 in
set_option maxRecDepth 100000 in
theorem c_M_same (l : Launch) (D : va_G) (k : Nat → Nat) (cI : Nat → ClassId) (n : Nat) (A : Nat → Prop) (hn : 12 ≤ n) (hn2 : n ≤ 24) (u : Nat → Nat → BitVec 8) (i : Nat) (h1 : 1 ≤ i) (h3 : i ≤ 3) (i2 : Nat) (g1 : 1 ≤ i2) (g3 : i2 ≤ 3) (a a2 b : Nat) (hk : a + b ≤ mSz i) (hk2 : a2 + b ≤ mSz i2) : Met l y_M_same w_M_same rm_M_same (va_Pc [.ref (k i), .int (nI (a)), .ref (k i2), .int (nI (a2)), .int (nI (b))] (mB D k cI n A u)) (va_Qi (fun r v => r = bI (alk (u i) (u i2) a a2 b) ∧ v = u) (mB D k cI n A) A) 0 0 A := by
  refine g_ofW (cc := b_M_same) (maxL := 7) (ret := (some .boolean)) (by decide) rfl (Nat.le_of_ble_eq_true rfl) ?_
  intro p e s m below meth c ls hx hb hml hr hlk hown hts hnm hB hl
  have hown : s.vm.findClass R_M = some m.cls := hown
  have hP := hB.1
  have hK := hB.2.1
  have hS : va_S A s.heap s.heap [] := va_S.rf
  have hl : lv_has ls 7 [(0, .ref (k i)), (1, .int (nI (a))), (2, .ref (k i2)), (3, .int (nI (a2))), (4, .int (nI (b)))] := hl
  have hz := mSz_lt i
  have z1 : mSz 1 = 12288 := rfl
  have z2 : mSz 2 = 1024 := rfl
  have z3 : mSz 3 = 16 := rfl
  have hz2 := mSz_lt i2
  refine lv_iconst (v := nI 1) hx hb d_M_same_0 rfl ?_
  refine lv_istore (lv' := [(5, .int (nI (1))), (0, .ref (k i)), (1, .int (nI (a))), (2, .ref (k i2)), (3, .int (nI (a2))), (4, .int (nI (b)))]) hx hb d_M_same_1 hl (by decide) rfl (fun ls hl => ?_)
  refine lv_iconst (v := nI 0) hx hb d_M_same_3 rfl ?_
  refine lv_istore (lv' := [(6, .int (nI (0))), (5, .int (nI (1))), (0, .ref (k i)), (1, .int (nI (a))), (2, .ref (k i2)), (3, .int (nI (a2))), (4, .int (nI (b)))]) hx hb d_M_same_4 hl (by decide) rfl (fun ls hl => ?_)
  have lp : ∀ (q : Nat) (j : Nat) (x : Int32) (H : Heap) (locs : List Loc) (ls : Array Slot), (j ≤ b) → (b + 1 ≤ j + q) → (x = bI (alk (u i) (u i2) a a2 j)) → va_P D classes (mW k cI n (u)) H → va_S A s.heap H locs → lv_has ls 7 [(6, .int (nI (j))), (5, .int (x)), (0, .ref (k i)), (1, .int (nI (a))), (2, .ref (k i2)), (3, .int (nI (a2))), (4, .int (nI (b)))] → W p l e rm_M_same s m ([.ref (k i), .int (nI (a)), .ref (k i2), .int (nI (a2)), .int (nI (b))] : List Value).toArray below meth c H locs 0 0 (MQ below (va_Qi (fun r v => r = bI (alk (u i) (u i2) a a2 b) ∧ v = u) (mB D k cI n A) A) ([.ref (k i), .int (nI (a)), .ref (k i2), .int (nI (a2)), .int (nI (b))] : List Value).toArray s 0 0 A) (F0 m 6 ls []) := by
    intro q
    induction q with
    | zero =>
      intro j x H locs ls hi hq hv hP hS hl
      exact absurd hq (by omega)
    | succ q ih =>
      intro j x H locs ls hi hq hv hP hS hl
      refine lv_iload hx hb d_M_same_6 (lv_at hl 0 rfl) ?_
      refine lv_iload hx hb d_M_same_8 (lv_at hl 6 rfl) ?_
      refine lv_icmp_ge (tgt := 46) hx hb d_M_same_10 (by decide) (fun c_10 => ?_) (fun c_10 => ?_)
      · have hik : j = b := ge_t hi (by omega) c_10
        refine lv_iload hx hb d_M_same_46 (lv_at hl 1 rfl) ?_
        exact g_zret (v := (x)) hx hb hr (by rw [hv]; exact bI_n _) hlk mW_w mX_x hB hP hS (⟨by rw [hv, hik], rfl⟩) d_M_same_48
      · have hik : j < b := ge_f (by omega) (by omega) c_10
        refine lv_iload hx hb d_M_same_13 (lv_at hl 1 rfl) ?_
        refine lv_if_eq (tgt := 37) hx hb d_M_same_15 (by decide) (fun c_15 => ?_) (fun c_15 => ?_)
        · refine lv_iconst (v := nI 0) hx hb d_M_same_37 rfl ?_
          refine lv_istore (lv' := [(5, .int (nI (0))), (6, .int (nI (j))), (0, .ref (k i)), (1, .int (nI (a))), (2, .ref (k i2)), (3, .int (nI (a2))), (4, .int (nI (b)))]) hx hb d_M_same_38 hl (by decide) rfl (fun ls hl => ?_)
          refine lv_iinc (v := (nI (j + 1))) (lv' := [(6, .int (nI (j + 1))), (5, .int (nI (0))), (0, .ref (k i)), (1, .int (nI (a))), (2, .ref (k i2)), (3, .int (nI (a2))), (4, .int (nI (b)))]) hx hb d_M_same_40 hl (k := 1) rfl (nI_add _ _) (by decide) rfl (fun ls hl => ?_)
          refine lv_goto (tgt := 6) hx hb d_M_same_43 (by decide) ?_
          exact ih (j + 1) _ _ _ _ (by omega) (by omega) (bI_f (fun z => bI_x hv c_15 (alk_s.mp z).1)).symm hP hS (lv_sub hl [0, 1, 2, 3, 4, 5, 6] rfl)
        · refine lv_aload_n hx hb d_M_same_18 rfl (lv_at hl 2 rfl) ?_
          refine lv_iload_n hx hb d_M_same_19 rfl (lv_at hl 3 rfl) ?_
          refine lv_iload hx hb d_M_same_20 (lv_at hl 0 rfl) ?_
          refine lv_iaddN hx hb d_M_same_22 ?_
          refine m_iald hx hb hB hP (i := i) h1 h3 (a := a + j) (by omega) d_M_same_23 ?_
          refine lv_aload_n hx hb d_M_same_24 rfl (lv_at hl 4 rfl) ?_
          refine lv_iload_n hx hb d_M_same_25 rfl (lv_at hl 5 rfl) ?_
          refine lv_iload hx hb d_M_same_26 (lv_at hl 0 rfl) ?_
          refine lv_iaddN hx hb d_M_same_28 ?_
          refine m_iald hx hb hB hP (i := i2) g1 g3 (a := a2 + j) (by omega) d_M_same_29 ?_
          refine lv_icmp_ne (tgt := 37) hx hb d_M_same_30 (by decide) (fun c_30 => ?_) (fun c_30 => ?_)
          · refine lv_iconst (v := nI 0) hx hb d_M_same_37 rfl ?_
            refine lv_istore (lv' := [(5, .int (nI (0))), (6, .int (nI (j))), (0, .ref (k i)), (1, .int (nI (a))), (2, .ref (k i2)), (3, .int (nI (a2))), (4, .int (nI (b)))]) hx hb d_M_same_38 hl (by decide) rfl (fun ls hl => ?_)
            refine lv_iinc (v := (nI (j + 1))) (lv' := [(6, .int (nI (j + 1))), (5, .int (nI (0))), (0, .ref (k i)), (1, .int (nI (a))), (2, .ref (k i2)), (3, .int (nI (a2))), (4, .int (nI (b)))]) hx hb d_M_same_40 hl (k := 1) rfl (nI_add _ _) (by decide) rfl (fun ls hl => ?_)
            refine lv_goto (tgt := 6) hx hb d_M_same_43 (by decide) ?_
            exact ih (j + 1) _ _ _ _ (by omega) (by omega) (bI_f (fun z => c_30 (zx_inj.mpr (alk_s.mp z).2))).symm hP hS (lv_sub hl [0, 1, 2, 3, 4, 5, 6] rfl)
          · refine lv_iconst (v := nI 1) hx hb d_M_same_33 rfl ?_
            refine lv_goto (tgt := 38) hx hb d_M_same_34 (by decide) ?_
            refine lv_istore (lv' := [(5, .int (nI (1))), (6, .int (nI (j))), (0, .ref (k i)), (1, .int (nI (a))), (2, .ref (k i2)), (3, .int (nI (a2))), (4, .int (nI (b)))]) hx hb d_M_same_38 hl (by decide) rfl (fun ls hl => ?_)
            refine lv_iinc (v := (nI (j + 1))) (lv' := [(6, .int (nI (j + 1))), (5, .int (nI (1))), (0, .ref (k i)), (1, .int (nI (a))), (2, .ref (k i2)), (3, .int (nI (a2))), (4, .int (nI (b)))]) hx hb d_M_same_40 hl (k := 1) rfl (nI_add _ _) (by decide) rfl (fun ls hl => ?_)
            refine lv_goto (tgt := 6) hx hb d_M_same_43 (by decide) ?_
            exact ih (j + 1) _ _ _ _ (by omega) (by omega) (bI_t (alk_s.mpr ⟨bI_y hv c_15, zx_inj.mp c_30⟩)).symm hP hS (lv_sub hl [0, 1, 2, 3, 4, 5, 6] rfl)
  exact lp (b + 1) 0 _ _ _ _ (Nat.zero_le _) (by omega) (bI_t lt_0).symm hP hS (lv_sub hl [0, 1, 2, 3, 4, 5, 6] rfl)
abbrev w_M_first : List Cond := .code y_M_first b_M_first 2 (some .long) :: ALL
abbrev rm_M_first : Room := { frames := 1, cells := 0, slots := 0, locals := 25 }
theorem hd_M_first : y_M_first.cls = R_M ∧ y_M_first.cls ≠ "java/lang/invoke/MethodHandle" ∧ y_M_first.cls ≠ "java/lang/invoke/VarHandle" ∧ (parseMethodDescriptor y_M_first.desc).map (fun d => d.parameters.length) = some 2 := by decide +kernel
set_option maxHeartbeats 4000000 in
set_option maxRecDepth 100000 in
theorem c_M_first (l : Launch) (D : va_G) (k : Nat → Nat) (cI : Nat → ClassId) (n : Nat) (A : Nat → Prop) (hn : 12 ≤ n) (hn2 : n ≤ 24) (u : Nat → Nat → BitVec 8) (i : Nat) (h1 : 1 ≤ i) (h3 : i ≤ 3) (a : Nat) (hk : a + 40 ≤ mSz i) : Met l y_M_first w_M_first rm_M_first (va_Pc [.ref (k i), .int (nI (a))] (mB D k cI n A u)) (va_Ql (fun r v => r = num (u i) (a + 32) 8 ∧ v = u) (mB D k cI n A) A) 0 0 A := by
  refine g_ofW (cc := b_M_first) (maxL := 2) (ret := (some .long)) (by decide) rfl (Nat.le_of_ble_eq_true rfl) ?_
  intro p e s m below meth c ls hx hb hml hr hlk hown hts hnm hB hl
  have hown : s.vm.findClass R_M = some m.cls := hown
  have hP := hB.1
  have hK := hB.2.1
  have hS : va_S A s.heap s.heap [] := va_S.rf
  have hl : lv_has ls 2 [(0, .ref (k i)), (1, .int (nI (a)))] := hl
  have hz := mSz_lt i
  have z1 : mSz 1 = 12288 := rfl
  have z2 : mSz 2 = 1024 := rfl
  have z3 : mSz 3 = 16 := rfl
  refine lv_aload_n hx hb d_M_first_0 rfl (lv_at hl 0 rfl) ?_
  refine lv_iload_n hx hb d_M_first_1 rfl (lv_at hl 1 rfl) ?_
  refine lv_bipush (v := nI 32) hx hb d_M_first_2 rfl ?_
  refine lv_iaddN hx hb d_M_first_4 ?_
  refine lv_bipush (v := nI 8) hx hb d_M_first_5 rfl ?_
  refine g_callSl (As := [.ref (k i), .int (nI (a + 32)), .int (nI (8))]) (rest := []) ⟨hx, hb, hml, hown, hts⟩ (index := 53) (c_M_get l D k cI n A hn hn2 (u) (i) (by omega) (by omega) (a + 32) (8) (by omega)) (cwS 3 hts (gd_S m_450 m_451 m_33 m_452) rfl rfl rfl hd_M_get ⟨Nat.le_of_ble_eq_true rfl, Nat.le_of_ble_eq_true rfl⟩) mW_w mX_x hB hP hS rfl hl.1 rfl (Nat.le_of_ble_eq_true rfl) d_M_first_7 ⟨Nat.zero_le _, Nat.zero_le _⟩ (fun r_ v_ H locs hw hP hS => ?_)
  obtain ⟨hw1, hw2⟩ := hw; have hw1 : r_ = (num ((u i)) (a + 32) 8) := hw1; have hw1 := hw1.symm; have hw2 := hw2.symm; subst hw1; subst hw2
  exact g_lret (v := (num ((u i)) (a + 32) 8)) hx hb hr hlk mW_w mX_x hB hP hS (⟨rfl, rfl⟩) d_M_first_10
abbrev w_M_last : List Cond := .code y_M_last b_M_last 2 (some .long) :: ALL
abbrev rm_M_last : Room := { frames := 1, cells := 0, slots := 0, locals := 25 }
theorem hd_M_last : y_M_last.cls = R_M ∧ y_M_last.cls ≠ "java/lang/invoke/MethodHandle" ∧ y_M_last.cls ≠ "java/lang/invoke/VarHandle" ∧ (parseMethodDescriptor y_M_last.desc).map (fun d => d.parameters.length) = some 2 := by decide +kernel
set_option maxHeartbeats 4000000 in
set_option maxRecDepth 100000 in
theorem c_M_last (l : Launch) (D : va_G) (k : Nat → Nat) (cI : Nat → ClassId) (n : Nat) (A : Nat → Prop) (hn : 12 ≤ n) (hn2 : n ≤ 24) (u : Nat → Nat → BitVec 8) (i : Nat) (h1 : 1 ≤ i) (h3 : i ≤ 3) (a : Nat) (hk : a + 48 ≤ mSz i) : Met l y_M_last w_M_last rm_M_last (va_Pc [.ref (k i), .int (nI (a))] (mB D k cI n A u)) (va_Ql (fun r v => r = num (u i) (a + 40) 8 ∧ v = u) (mB D k cI n A) A) 0 0 A := by
  refine g_ofW (cc := b_M_last) (maxL := 2) (ret := (some .long)) (by decide) rfl (Nat.le_of_ble_eq_true rfl) ?_
  intro p e s m below meth c ls hx hb hml hr hlk hown hts hnm hB hl
  have hown : s.vm.findClass R_M = some m.cls := hown
  have hP := hB.1
  have hK := hB.2.1
  have hS : va_S A s.heap s.heap [] := va_S.rf
  have hl : lv_has ls 2 [(0, .ref (k i)), (1, .int (nI (a)))] := hl
  have hz := mSz_lt i
  have z1 : mSz 1 = 12288 := rfl
  have z2 : mSz 2 = 1024 := rfl
  have z3 : mSz 3 = 16 := rfl
  refine lv_aload_n hx hb d_M_last_0 rfl (lv_at hl 0 rfl) ?_
  refine lv_iload_n hx hb d_M_last_1 rfl (lv_at hl 1 rfl) ?_
  refine lv_bipush (v := nI 40) hx hb d_M_last_2 rfl ?_
  refine lv_iaddN hx hb d_M_last_4 ?_
  refine lv_bipush (v := nI 8) hx hb d_M_last_5 rfl ?_
  refine g_callSl (As := [.ref (k i), .int (nI (a + 40)), .int (nI (8))]) (rest := []) ⟨hx, hb, hml, hown, hts⟩ (index := 53) (c_M_get l D k cI n A hn hn2 (u) (i) (by omega) (by omega) (a + 40) (8) (by omega)) (cwS 3 hts (gd_S m_450 m_451 m_33 m_452) rfl rfl rfl hd_M_get ⟨Nat.le_of_ble_eq_true rfl, Nat.le_of_ble_eq_true rfl⟩) mW_w mX_x hB hP hS rfl hl.1 rfl (Nat.le_of_ble_eq_true rfl) d_M_last_7 ⟨Nat.zero_le _, Nat.zero_le _⟩ (fun r_ v_ H locs hw hP hS => ?_)
  obtain ⟨hw1, hw2⟩ := hw; have hw1 : r_ = (num ((u i)) (a + 40) 8) := hw1; have hw1 := hw1.symm; have hw2 := hw2.symm; subst hw1; subst hw2
  exact g_lret (v := (num ((u i)) (a + 40) 8)) hx hb hr hlk mW_w mX_x hB hP hS (⟨rfl, rfl⟩) d_M_last_10
abbrev w_M_isFree : List Cond := .code y_M_isFree b_M_isFree 2 (some .boolean) :: ALL
abbrev rm_M_isFree : Room := { frames := 1, cells := 0, slots := 0, locals := 24 }
theorem hd_M_isFree : y_M_isFree.cls = R_M ∧ y_M_isFree.cls ≠ "java/lang/invoke/MethodHandle" ∧ y_M_isFree.cls ≠ "java/lang/invoke/VarHandle" ∧ (parseMethodDescriptor y_M_isFree.desc).map (fun d => d.parameters.length) = some 2 := by decide +kernel
set_option maxHeartbeats 4000000 in
set_option maxRecDepth 100000 in
theorem c_M_isFree (l : Launch) (D : va_G) (k : Nat → Nat) (cI : Nat → ClassId) (n : Nat) (A : Nat → Prop) (hn : 12 ≤ n) (hn2 : n ≤ 24) (u : Nat → Nat → BitVec 8) (i : Nat) (h1 : 1 ≤ i) (h3 : i ≤ 3) (a : Nat) (hk : a + 16 ≤ mSz i) : Met l y_M_isFree w_M_isFree rm_M_isFree (va_Pc [.ref (k i), .int (nI (a))] (mB D k cI n A u)) (va_Qi (fun r v => r = bI (isZ (u i) a 16) ∧ v = u) (mB D k cI n A) A) 0 0 A := by
  refine g_ofW (cc := b_M_isFree) (maxL := 2) (ret := (some .boolean)) (by decide) rfl (Nat.le_of_ble_eq_true rfl) ?_
  intro p e s m below meth c ls hx hb hml hr hlk hown hts hnm hB hl
  have hown : s.vm.findClass R_M = some m.cls := hown
  have hP := hB.1
  have hK := hB.2.1
  have hS : va_S A s.heap s.heap [] := va_S.rf
  have hl : lv_has ls 2 [(0, .ref (k i)), (1, .int (nI (a)))] := hl
  have hz := mSz_lt i
  have z1 : mSz 1 = 12288 := rfl
  have z2 : mSz 2 = 1024 := rfl
  have z3 : mSz 3 = 16 := rfl
  refine lv_aload_n hx hb d_M_isFree_0 rfl (lv_at hl 0 rfl) ?_
  refine lv_iload_n hx hb d_M_isFree_1 rfl (lv_at hl 1 rfl) ?_
  refine lv_bipush (v := nI 16) hx hb d_M_isFree_2 rfl ?_
  refine g_callSi (As := [.ref (k i), .int (nI (a)), .int (nI (16))]) (rest := []) ⟨hx, hb, hml, hown, hts⟩ (index := 57) (c_M_zeros l D k cI n A hn hn2 (u) (i) (by omega) (by omega) (a) (16) (by omega)) (cwS 3 hts (gd_S m_488 m_489 m_33 m_490) rfl rfl rfl hd_M_zeros ⟨Nat.le_of_ble_eq_true rfl, Nat.le_of_ble_eq_true rfl⟩) mW_w mX_x hB hP hS rfl hl.1 rfl (Nat.le_of_ble_eq_true rfl) d_M_isFree_4 ⟨Nat.zero_le _, Nat.zero_le _⟩ (fun r_ v_ H locs hw hP hS => ?_)
  obtain ⟨hw1, hw2⟩ := hw; have hw1 : r_ = (bI (isZ ((u i)) a 16)) := hw1; have hw1 := hw1.symm; have hw2 := hw2.symm; subst hw1; subst hw2
  exact g_zret (v := (bI (isZ ((u i)) a 16))) hx hb hr (bI_n _) hlk mW_w mX_x hB hP hS (⟨rfl, rfl⟩) d_M_isFree_7
abbrev w_M_more : List Cond := .code y_M_more b_M_more 5 (some .int) :: ALL
abbrev rm_M_more : Room := { frames := 0, cells := 0, slots := 0, locals := 0 }
theorem hd_M_more : y_M_more.cls = R_M ∧ y_M_more.cls ≠ "java/lang/invoke/MethodHandle" ∧ y_M_more.cls ≠ "java/lang/invoke/VarHandle" ∧ (parseMethodDescriptor y_M_more.desc).map (fun d => d.parameters.length) = some 2 := by decide +kernel
set_option maxHeartbeats 4000000 in
set_option maxRecDepth 100000 in
theorem c_M_more (l : Launch) (D : va_G) (k : Nat → Nat) (cI : Nat → ClassId) (n : Nat) (A : Nat → Prop) (hn : 12 ≤ n) (hn2 : n ≤ 24) (u : Nat → Nat → BitVec 8) (x0 y0 : Int32) : Met l y_M_more w_M_more rm_M_more (va_Pc [.int (x0), .int (y0)] (mB D k cI n A u)) (va_Qi (fun r v => r = adB x0 y0 ∧ v = u) (mB D k cI n A) A) 0 0 A := by
  refine g_ofW (cc := b_M_more) (maxL := 5) (ret := (some .int)) (by decide) rfl (Nat.le_of_ble_eq_true rfl) ?_
  intro p e s m below meth c ls hx hb hml hr hlk hown hts hnm hB hl
  have hown : s.vm.findClass R_M = some m.cls := hown
  have hP := hB.1
  have hK := hB.2.1
  have hS : va_S A s.heap s.heap [] := va_S.rf
  have hl : lv_has ls 5 [(0, .int (x0)), (1, .int (y0))] := hl
  have z1 : mSz 1 = 12288 := rfl
  have z2 : mSz 2 = 1024 := rfl
  have z3 : mSz 3 = 16 := rfl
  refine lv_iload_n hx hb d_M_more_0 rfl (lv_at hl 0 rfl) ?_
  refine lv_iload_n hx hb d_M_more_1 rfl (lv_at hl 1 rfl) ?_
  refine lv_ixor hx hb d_M_more_2 ?_
  refine lv_istore_n (lv' := [(2, .int ((x0) ^^^ (y0))), (0, .int (x0)), (1, .int (y0))]) hx hb d_M_more_3 rfl hl (by decide) rfl (fun ls hl => ?_)
  refine lv_iconst (v := nI 0) hx hb d_M_more_4 rfl ?_
  refine lv_istore_n (lv' := [(3, .int (nI (0))), (2, .int ((x0) ^^^ (y0))), (0, .int (x0)), (1, .int (y0))]) hx hb d_M_more_5 rfl hl (by decide) rfl (fun ls hl => ?_)
  have lp : ∀ (q : Nat) (j : Nat) (x : Int32) (H : Heap) (locs : List Loc) (ls : Array Slot), (j ≤ 8) → (8 + 1 ≤ j + q) → (x = stN (x0 ^^^ y0) j) → va_P D classes (mW k cI n (u)) H → va_S A s.heap H locs → lv_has ls 5 [(3, .int (nI (j))), (2, .int (x)), (0, .int (x0)), (1, .int (y0))] → W p l e rm_M_more s m ([.int (x0), .int (y0)] : List Value).toArray below meth c H locs 0 0 (MQ below (va_Qi (fun r v => r = adB x0 y0 ∧ v = u) (mB D k cI n A) A) ([.int (x0), .int (y0)] : List Value).toArray s 0 0 A) (F0 m 6 ls []) := by
    intro q
    induction q with
    | zero =>
      intro j x H locs ls hi hq hv hP hS hl
      exact absurd hq (by omega)
    | succ q ih =>
      intro j x H locs ls hi hq hv hP hS hl
      refine lv_iload_n hx hb d_M_more_6 rfl (lv_at hl 0 rfl) ?_
      refine lv_bipush (v := nI 8) hx hb d_M_more_7 rfl ?_
      refine lv_icmp_ge (tgt := 50) hx hb d_M_more_9 (by decide) (fun c_9 => ?_) (fun c_9 => ?_)
      · have hik : j = 8 := ge_t hi (by omega) c_9
        refine lv_iload_n hx hb d_M_more_50 rfl (lv_at hl 1 rfl) ?_
        exact g_iret (v := (x)) hx hb hr hlk mW_w mX_x hB hP hS (⟨by rw [hv, hik, stN_8], rfl⟩) d_M_more_51
      · have hik : j < 8 := ge_f (by omega) (by omega) c_9
        refine lv_iload_n hx hb d_M_more_12 rfl (lv_at hl 1 rfl) ?_
        refine lv_iconst (v := nI 1) hx hb d_M_more_13 rfl ?_
        refine lv_iand hx hb d_M_more_14 ?_
        refine lv_iconst (v := nI 1) hx hb d_M_more_15 rfl ?_
        refine lv_icmp_ne (tgt := 23) hx hb d_M_more_16 (by decide) (fun c_16 => ?_) (fun c_16 => ?_)
        · refine lv_iconst (v := nI 0) hx hb d_M_more_23 rfl ?_
          refine lv_istore (lv' := [(4, .int (nI (0))), (3, .int (nI (j))), (2, .int (x)), (0, .int (x0)), (1, .int (y0))]) hx hb d_M_more_24 hl (by decide) rfl (fun ls hl => ?_)
          refine lv_iload_n hx hb d_M_more_26 rfl (lv_at hl 2 rfl) ?_
          refine lv_iconst (v := nI 1) hx hb d_M_more_27 rfl ?_
          refine lv_iushr hx hb d_M_more_28 rfl ?_
          refine lv_istore_n (lv' := [(2, .int (((x).toUInt32 >>> ((nI (1)).toUInt32 &&& Int32.toUInt32 31)).toInt32)), (4, .int (nI (0))), (3, .int (nI (j))), (0, .int (x0)), (1, .int (y0))]) hx hb d_M_more_29 rfl hl (by decide) rfl (fun ls hl => ?_)
          refine lv_iload hx hb d_M_more_30 (lv_at hl 1 rfl) ?_
          refine lv_if_eq (tgt := 42) hx hb d_M_more_32 (by decide) (fun _ => ?_) (fun c9 => absurd (by decide) c9)
          refine lv_iload_n hx hb d_M_more_42 rfl (lv_at hl 0 rfl) ?_
          refine lv_istore_n (lv' := [(2, .int (((x).toUInt32 >>> ((nI (1)).toUInt32 &&& Int32.toUInt32 31)).toInt32)), (4, .int (nI (0))), (3, .int (nI (j))), (0, .int (x0)), (1, .int (y0))]) hx hb d_M_more_43 rfl hl (by decide) rfl (fun ls hl => ?_)
          refine lv_iinc (v := (nI (j + 1))) (lv' := [(3, .int (nI (j + 1))), (2, .int (((x).toUInt32 >>> ((nI (1)).toUInt32 &&& Int32.toUInt32 31)).toInt32)), (4, .int (nI (0))), (0, .int (x0)), (1, .int (y0))]) hx hb d_M_more_44 hl (k := 2) rfl (nI_add _ _) (by decide) rfl (fun ls hl => ?_)
          refine lv_goto (tgt := 6) hx hb d_M_more_47 (by decide) ?_
          exact ih (j + 1) _ _ _ _ (by omega) (by omega) (by rw [hv] at c_16 ⊢; exact (if_neg c_16).symm) hP hS (lv_sub hl [0, 1, 3, 4] rfl)
        · refine lv_iconst (v := nI 1) hx hb d_M_more_19 rfl ?_
          refine lv_goto (tgt := 24) hx hb d_M_more_20 (by decide) ?_
          refine lv_istore (lv' := [(4, .int (nI (1))), (3, .int (nI (j))), (2, .int (x)), (0, .int (x0)), (1, .int (y0))]) hx hb d_M_more_24 hl (by decide) rfl (fun ls hl => ?_)
          refine lv_iload_n hx hb d_M_more_26 rfl (lv_at hl 2 rfl) ?_
          refine lv_iconst (v := nI 1) hx hb d_M_more_27 rfl ?_
          refine lv_iushr hx hb d_M_more_28 rfl ?_
          refine lv_istore_n (lv' := [(2, .int (((x).toUInt32 >>> ((nI (1)).toUInt32 &&& Int32.toUInt32 31)).toInt32)), (4, .int (nI (1))), (3, .int (nI (j))), (0, .int (x0)), (1, .int (y0))]) hx hb d_M_more_29 rfl hl (by decide) rfl (fun ls hl => ?_)
          refine lv_iload hx hb d_M_more_30 (lv_at hl 1 rfl) ?_
          refine lv_if_eq (tgt := 42) hx hb d_M_more_32 (by decide) (fun c9 => absurd c9 (by decide)) (fun _ => ?_)
          refine lv_iload_n hx hb d_M_more_35 rfl (lv_at hl 0 rfl) ?_
          refine lv_ldc (v := (-306674912)) hx hb hown (hts _ (.tail _ m_445)) d_M_more_36 ?_
          refine lv_ixor hx hb d_M_more_38 ?_
          refine lv_goto (tgt := 43) hx hb d_M_more_39 (by decide) ?_
          refine lv_istore_n (lv' := [(2, .int ((((x).toUInt32 >>> ((nI (1)).toUInt32 &&& Int32.toUInt32 31)).toInt32) ^^^ (-306674912))), (4, .int (nI (1))), (3, .int (nI (j))), (0, .int (x0)), (1, .int (y0))]) hx hb d_M_more_43 rfl hl (by decide) rfl (fun ls hl => ?_)
          refine lv_iinc (v := (nI (j + 1))) (lv' := [(3, .int (nI (j + 1))), (2, .int ((((x).toUInt32 >>> ((nI (1)).toUInt32 &&& Int32.toUInt32 31)).toInt32) ^^^ (-306674912))), (4, .int (nI (1))), (0, .int (x0)), (1, .int (y0))]) hx hb d_M_more_44 hl (k := 2) rfl (nI_add _ _) (by decide) rfl (fun ls hl => ?_)
          refine lv_goto (tgt := 6) hx hb d_M_more_47 (by decide) ?_
          exact ih (j + 1) _ _ _ _ (by omega) (by omega) (by rw [hv] at c_16 ⊢; exact (if_pos c_16).symm) hP hS (lv_sub hl [0, 1, 3, 4] rfl)
  exact lp (8 + 1) 0 _ _ _ _ (Nat.zero_le _) (by omega) rfl hP hS (lv_sub hl [0, 1, 2, 3] rfl)
abbrev w_M_sumOf : List Cond := .code y_M_sumOf b_M_sumOf 6 (some .int) :: ALL
abbrev rm_M_sumOf : Room := { frames := 1, cells := 0, slots := 0, locals := 24 }
theorem hd_M_sumOf : y_M_sumOf.cls = R_M ∧ y_M_sumOf.cls ≠ "java/lang/invoke/MethodHandle" ∧ y_M_sumOf.cls ≠ "java/lang/invoke/VarHandle" ∧ (parseMethodDescriptor y_M_sumOf.desc).map (fun d => d.parameters.length) = some 3 := by decide +kernel
set_option maxHeartbeats 4000000 in
set_option maxRecDepth 100000 in
theorem c_M_sumOf (l : Launch) (D : va_G) (k : Nat → Nat) (cI : Nat → ClassId) (n : Nat) (A : Nat → Prop) (hn : 12 ≤ n) (hn2 : n ≤ 24) (d t mk : Nat → BitVec 8) (a b : Nat) (z0 : Int32) (hk : a + b ≤ 12288) : Met l y_M_sumOf w_M_sumOf rm_M_sumOf (va_Pc [.ref (k 0), .int (nI (a)), .int (nI (b)), .int (z0)] (mB D k cI n A (mU d t mk))) (va_Qi (fun r v => r = -1 - crB d z0 (-1) a b ∧ v = mU d t mk) (mB D k cI n A) A) 0 0 A := by
  refine g_ofW (cc := b_M_sumOf) (maxL := 6) (ret := (some .int)) (by decide) rfl (Nat.le_of_ble_eq_true rfl) ?_
  intro p e s m below meth c ls hx hb hml hr hlk hown hts hnm hB hl
  have hown : s.vm.findClass R_M = some m.cls := hown
  have hP := hB.1
  have hK := hB.2.1
  obtain ⟨H, hH⟩ : ∃ H, H = s.heap := ⟨_, rfl⟩
  have hS : va_S A s.heap H [] := by rw [hH]; exact va_S.rf
  rw [← hH] at hP ⊢
  have hl : lv_has ls 6 [(0, .ref (k 0)), (1, .int (nI (a))), (2, .int (nI (b))), (3, .int (z0))] := hl
  have z1 : mSz 1 = 12288 := rfl
  have z2 : mSz 2 = 1024 := rfl
  have z3 : mSz 3 = 16 := rfl
  refine lv_iconst (v := -1) hx hb d_M_sumOf_0 rfl ?_
  refine lv_istore (lv' := [(4, .int (-1)), (0, .ref (k 0)), (1, .int (nI (a))), (2, .int (nI (b))), (3, .int (z0))]) hx hb d_M_sumOf_1 hl (by decide) rfl (fun ls hl => ?_)
  refine lv_iload_n hx hb d_M_sumOf_3 rfl (lv_at hl 2 rfl) ?_
  refine lv_istore (lv' := [(5, .int (nI (a))), (4, .int (-1)), (0, .ref (k 0)), (1, .int (nI (a))), (2, .int (nI (b))), (3, .int (z0))]) hx hb d_M_sumOf_4 hl (by decide) rfl (fun ls hl => ?_)
  have lp : ∀ (q : Nat) (j : Nat) (x : Int32) (H : Heap) (locs : List Loc) (ls : Array Slot), (j ≤ b) → (b + 1 ≤ j + q) → (x = crB d z0 (-1) a j) → va_P D classes (mW k cI n (mU (d) (t) (mk))) H → va_S A s.heap H locs → lv_has ls 6 [(5, .int (nI (a + j))), (4, .int (x)), (0, .ref (k 0)), (1, .int (nI (a))), (2, .int (nI (b))), (3, .int (z0))] → W p l e rm_M_sumOf s m ([.ref (k 0), .int (nI (a)), .int (nI (b)), .int (z0)] : List Value).toArray below meth c H locs 0 0 (MQ below (va_Qi (fun r v => r = -1 - crB d z0 (-1) a b ∧ v = mU d t mk) (mB D k cI n A) A) ([.ref (k 0), .int (nI (a)), .int (nI (b)), .int (z0)] : List Value).toArray s 0 0 A) (F0 m 6 ls []) := by
    intro q
    induction q with
    | zero =>
      intro j x H locs ls hi hq hv hP hS hl
      exact absurd hq (by omega)
    | succ q ih =>
      intro j x H locs ls hi hq hv hP hS hl
      refine lv_iload hx hb d_M_sumOf_6 (lv_at hl 0 rfl) ?_
      refine lv_iload_n hx hb d_M_sumOf_8 rfl (lv_at hl 3 rfl) ?_
      refine lv_iload_n hx hb d_M_sumOf_9 rfl (lv_at hl 4 rfl) ?_
      refine lv_iaddN hx hb d_M_sumOf_10 ?_
      refine lv_icmp_ge (tgt := 56) hx hb d_M_sumOf_11 (by decide) (fun c_11 => ?_) (fun c_11 => ?_)
      · have hik : j = b := by have := ge_t (i := a + j) (k := a + b) (by omega) (by omega) c_11; omega
        refine lv_iconst (v := -1) hx hb d_M_sumOf_56 rfl ?_
        refine lv_iload hx hb d_M_sumOf_57 (lv_at hl 1 rfl) ?_
        refine lv_isub hx hb d_M_sumOf_59 ?_
        exact g_iret (v := ((-1) - (x))) hx hb hr hlk mW_w mX_x hB hP hS (⟨by rw [hv, hik], rfl⟩) d_M_sumOf_60
      · have hik : j < b := by have := ge_f (i := a + j) (k := a + b) (by omega) (by omega) c_11; omega
        refine lv_iload hx hb d_M_sumOf_14 (lv_at hl 1 rfl) ?_
        refine lv_iload_n hx hb d_M_sumOf_16 rfl (lv_at hl 5 rfl) ?_
        refine lv_if_lt (tgt := 38) hx hb d_M_sumOf_17 (by decide) (fun c_17 => ?_) (fun c_17 => ?_)
        · refine lv_aload_n hx hb d_M_sumOf_38 rfl (lv_at hl 2 rfl) ?_
          refine va_get (D := D) (ci := 3) (v := .ref (k 1)) (C := R_M) (T := F_M) (N := 4) hx hb hts (fun w h => .tail _ (fi_M w h)) hown hK hP 0 rfl rfl 1 (by decide) (hts _ (.tail _ m_405)) (fun _ h9 => h9) rfl d_M_sumOf_39 ?_
          refine lv_iload hx hb d_M_sumOf_42 (lv_at hl 0 rfl) ?_
          refine m_iald hx hb hB hP (i := 1) (by decide) (by decide) (a := a + j) (by omega) d_M_sumOf_44 ?_
          refine g_callSi (As := [.int (x), .int (zx (d (a + j)))]) (rest := []) ⟨hx, hb, hml, hown, hts⟩ (index := 38) (c_M_more l D k cI n A hn hn2 (mU (d) (t) (mk)) (x) (zx (d (a + j)))) (cwS 2 hts (gd_S m_442 m_443 m_33 m_444) rfl rfl rfl hd_M_more ⟨Nat.le_of_ble_eq_true rfl, Nat.le_of_ble_eq_true rfl⟩) mW_w mX_x hB hP hS rfl hl.1 rfl (Nat.le_of_ble_eq_true rfl) d_M_sumOf_45 ⟨Nat.zero_le _, Nat.zero_le _⟩ (fun r_ v_ H locs hw hP hS => ?_)
          obtain ⟨hw1, hw2⟩ := hw; have hw1 : r_ = (adB x (zx (d (a + j)))) := hw1; have hw1 := hw1.symm; have hw2 := hw2.symm; subst hw1; subst hw2
          refine lv_istore (lv' := [(4, .int (adB x (zx (d (a + j))))), (5, .int (nI (a + j))), (0, .ref (k 0)), (1, .int (nI (a))), (2, .int (nI (b))), (3, .int (z0))]) hx hb d_M_sumOf_48 hl (by decide) rfl (fun ls hl => ?_)
          refine lv_iinc (v := (nI (a + j + 1))) (lv' := [(5, .int (nI (a + j + 1))), (4, .int (adB x (zx (d (a + j))))), (0, .ref (k 0)), (1, .int (nI (a))), (2, .int (nI (b))), (3, .int (z0))]) hx hb d_M_sumOf_50 hl (k := 1) rfl (nI_add _ _) (by decide) rfl (fun ls hl => ?_)
          refine lv_goto (tgt := 6) hx hb d_M_sumOf_53 (by decide) ?_
          exact ih (j + 1) _ _ _ _ (by omega) (by omega) (by rw [hv]; exact congrArg (adB _) (cI_f (fun w => w.1 c_17)).symm) hP hS (lv_sub hl [0, 1, 2, 3, 4, 5] rfl)
        · refine lv_iload hx hb d_M_sumOf_20 (lv_at hl 0 rfl) ?_
          refine lv_iload_n hx hb d_M_sumOf_22 rfl (lv_at hl 5 rfl) ?_
          refine lv_icmp_lt (tgt := 38) hx hb d_M_sumOf_23 (by decide) (fun c_23 => ?_) (fun c_23 => ?_)
          · refine lv_aload_n hx hb d_M_sumOf_38 rfl (lv_at hl 2 rfl) ?_
            refine va_get (D := D) (ci := 3) (v := .ref (k 1)) (C := R_M) (T := F_M) (N := 4) hx hb hts (fun w h => .tail _ (fi_M w h)) hown hK hP 0 rfl rfl 1 (by decide) (hts _ (.tail _ m_405)) (fun _ h9 => h9) rfl d_M_sumOf_39 ?_
            refine lv_iload hx hb d_M_sumOf_42 (lv_at hl 0 rfl) ?_
            refine m_iald hx hb hB hP (i := 1) (by decide) (by decide) (a := a + j) (by omega) d_M_sumOf_44 ?_
            refine g_callSi (As := [.int (x), .int (zx (d (a + j)))]) (rest := []) ⟨hx, hb, hml, hown, hts⟩ (index := 38) (c_M_more l D k cI n A hn hn2 (mU (d) (t) (mk)) (x) (zx (d (a + j)))) (cwS 2 hts (gd_S m_442 m_443 m_33 m_444) rfl rfl rfl hd_M_more ⟨Nat.le_of_ble_eq_true rfl, Nat.le_of_ble_eq_true rfl⟩) mW_w mX_x hB hP hS rfl hl.1 rfl (Nat.le_of_ble_eq_true rfl) d_M_sumOf_45 ⟨Nat.zero_le _, Nat.zero_le _⟩ (fun r_ v_ H locs hw hP hS => ?_)
            obtain ⟨hw1, hw2⟩ := hw; have hw1 : r_ = (adB x (zx (d (a + j)))) := hw1; have hw1 := hw1.symm; have hw2 := hw2.symm; subst hw1; subst hw2
            refine lv_istore (lv' := [(4, .int (adB x (zx (d (a + j))))), (5, .int (nI (a + j))), (0, .ref (k 0)), (1, .int (nI (a))), (2, .int (nI (b))), (3, .int (z0))]) hx hb d_M_sumOf_48 hl (by decide) rfl (fun ls hl => ?_)
            refine lv_iinc (v := (nI (a + j + 1))) (lv' := [(5, .int (nI (a + j + 1))), (4, .int (adB x (zx (d (a + j))))), (0, .ref (k 0)), (1, .int (nI (a))), (2, .int (nI (b))), (3, .int (z0))]) hx hb d_M_sumOf_50 hl (k := 1) rfl (nI_add _ _) (by decide) rfl (fun ls hl => ?_)
            refine lv_goto (tgt := 6) hx hb d_M_sumOf_53 (by decide) ?_
            exact ih (j + 1) _ _ _ _ (by omega) (by omega) (by rw [hv]; exact congrArg (adB _) (cI_f (fun w => w.2.1 c_23)).symm) hP hS (lv_sub hl [0, 1, 2, 3, 4, 5] rfl)
          · refine lv_iload hx hb d_M_sumOf_26 (lv_at hl 0 rfl) ?_
            refine lv_iload_n hx hb d_M_sumOf_28 rfl (lv_at hl 5 rfl) ?_
            refine lv_iconst (v := nI 4) hx hb d_M_sumOf_29 rfl ?_
            refine lv_iadd hx hb d_M_sumOf_30 ?_
            refine lv_icmp_ge (tgt := 38) hx hb d_M_sumOf_31 (by decide) (fun c_31 => ?_) (fun c_31 => ?_)
            · refine lv_aload_n hx hb d_M_sumOf_38 rfl (lv_at hl 2 rfl) ?_
              refine va_get (D := D) (ci := 3) (v := .ref (k 1)) (C := R_M) (T := F_M) (N := 4) hx hb hts (fun w h => .tail _ (fi_M w h)) hown hK hP 0 rfl rfl 1 (by decide) (hts _ (.tail _ m_405)) (fun _ h9 => h9) rfl d_M_sumOf_39 ?_
              refine lv_iload hx hb d_M_sumOf_42 (lv_at hl 0 rfl) ?_
              refine m_iald hx hb hB hP (i := 1) (by decide) (by decide) (a := a + j) (by omega) d_M_sumOf_44 ?_
              refine g_callSi (As := [.int (x), .int (zx (d (a + j)))]) (rest := []) ⟨hx, hb, hml, hown, hts⟩ (index := 38) (c_M_more l D k cI n A hn hn2 (mU (d) (t) (mk)) (x) (zx (d (a + j)))) (cwS 2 hts (gd_S m_442 m_443 m_33 m_444) rfl rfl rfl hd_M_more ⟨Nat.le_of_ble_eq_true rfl, Nat.le_of_ble_eq_true rfl⟩) mW_w mX_x hB hP hS rfl hl.1 rfl (Nat.le_of_ble_eq_true rfl) d_M_sumOf_45 ⟨Nat.zero_le _, Nat.zero_le _⟩ (fun r_ v_ H locs hw hP hS => ?_)
              obtain ⟨hw1, hw2⟩ := hw; have hw1 : r_ = (adB x (zx (d (a + j)))) := hw1; have hw1 := hw1.symm; have hw2 := hw2.symm; subst hw1; subst hw2
              refine lv_istore (lv' := [(4, .int (adB x (zx (d (a + j))))), (5, .int (nI (a + j))), (0, .ref (k 0)), (1, .int (nI (a))), (2, .int (nI (b))), (3, .int (z0))]) hx hb d_M_sumOf_48 hl (by decide) rfl (fun ls hl => ?_)
              refine lv_iinc (v := (nI (a + j + 1))) (lv' := [(5, .int (nI (a + j + 1))), (4, .int (adB x (zx (d (a + j))))), (0, .ref (k 0)), (1, .int (nI (a))), (2, .int (nI (b))), (3, .int (z0))]) hx hb d_M_sumOf_50 hl (k := 1) rfl (nI_add _ _) (by decide) rfl (fun ls hl => ?_)
              refine lv_goto (tgt := 6) hx hb d_M_sumOf_53 (by decide) ?_
              exact ih (j + 1) _ _ _ _ (by omega) (by omega) (by rw [hv]; exact congrArg (adB _) (cI_f (fun w => w.2.2 c_31)).symm) hP hS (lv_sub hl [0, 1, 2, 3, 4, 5] rfl)
            · refine lv_iconst (v := nI 0) hx hb d_M_sumOf_34 rfl ?_
              refine lv_goto (tgt := 45) hx hb d_M_sumOf_35 (by decide) ?_
              refine g_callSi (As := [.int (x), .int (nI (0))]) (rest := []) ⟨hx, hb, hml, hown, hts⟩ (index := 38) (c_M_more l D k cI n A hn hn2 (mU (d) (t) (mk)) (x) ((nI (0)))) (cwS 2 hts (gd_S m_442 m_443 m_33 m_444) rfl rfl rfl hd_M_more ⟨Nat.le_of_ble_eq_true rfl, Nat.le_of_ble_eq_true rfl⟩) mW_w mX_x hB hP hS rfl hl.1 rfl (Nat.le_of_ble_eq_true rfl) d_M_sumOf_45 ⟨Nat.zero_le _, Nat.zero_le _⟩ (fun r_ v_ H locs hw hP hS => ?_)
              obtain ⟨hw1, hw2⟩ := hw; have hw1 : r_ = (adB x ((nI (0)))) := hw1; have hw1 := hw1.symm; have hw2 := hw2.symm; subst hw1; subst hw2
              refine lv_istore (lv' := [(4, .int (adB x ((nI (0))))), (5, .int (nI (a + j))), (0, .ref (k 0)), (1, .int (nI (a))), (2, .int (nI (b))), (3, .int (z0))]) hx hb d_M_sumOf_48 hl (by decide) rfl (fun ls hl => ?_)
              refine lv_iinc (v := (nI (a + j + 1))) (lv' := [(5, .int (nI (a + j + 1))), (4, .int (adB x ((nI (0))))), (0, .ref (k 0)), (1, .int (nI (a))), (2, .int (nI (b))), (3, .int (z0))]) hx hb d_M_sumOf_50 hl (k := 1) rfl (nI_add _ _) (by decide) rfl (fun ls hl => ?_)
              refine lv_goto (tgt := 6) hx hb d_M_sumOf_53 (by decide) ?_
              exact ih (j + 1) _ _ _ _ (by omega) (by omega) (by rw [hv]; exact congrArg (adB _) (cI_t ⟨c_17, c_23, c_31⟩).symm) hP hS (lv_sub hl [0, 1, 2, 3, 4, 5] rfl)
  exact lp (b + 1) 0 _ _ _ _ (Nat.zero_le _) (by omega) rfl hP hS (lv_sub hl [0, 1, 2, 3, 4, 5] rfl)
theorem c_M_sumOf0 (l : Launch) (D : va_G) (k : Nat → Nat) (cI : Nat → ClassId) (n : Nat) (A : Nat → Prop) (hn : 12 ≤ n) (hn2 : n ≤ 24) (d t mk : Nat → BitVec 8) (a b : Nat) (hk : a + b ≤ 12288) : Met l y_M_sumOf w_M_sumOf rm_M_sumOf (va_Pc [.ref (k 0), .int (nI a), .int (nI b), .int (-1)] (mB D k cI n A (mU d t mk))) (va_Qi (fun r v => r = smO d a b ∧ v = mU d t mk) (mB D k cI n A) A) 0 0 A := by
  have h := c_M_sumOf l D k cI n A hn hn2 d t mk a b (-1) hk
  rw [crB_1] at h
  exact h
theorem c_M_sumOfB (l : Launch) (D : va_G) (k : Nat → Nat) (cI : Nat → ClassId) (n : Nat) (A : Nat → Prop) (hn : 12 ≤ n) (hn2 : n ≤ 24) (d t mk : Nat → BitVec 8) (z a b : Nat) (hk : a + b ≤ 12288) (h1 : a ≤ z) (h2 : z + 4 ≤ a + b) : Met l y_M_sumOf w_M_sumOf rm_M_sumOf (va_Pc [.ref (k 0), .int (nI a), .int (nI b), .int (nI z)] (mB D k cI n A (mU d t mk))) (va_Qi (fun r v => r = smW d z a b ∧ v = mU d t mk) (mB D k cI n A) A) 0 0 A := by
  have h := c_M_sumOf l D k cI n A hn hn2 d t mk a b (nI z) hk
  rw [crB_w h1 h2 (by omega)] at h
  exact h
abbrev w_M_blocks : List Cond := .code y_M_blocks b_M_blocks 1 (some .int) :: ALL
abbrev rm_M_blocks : Room := { frames := 0, cells := 0, slots := 0, locals := 0 }
theorem hd_M_blocks : y_M_blocks.cls = R_M ∧ y_M_blocks.cls ≠ "java/lang/invoke/MethodHandle" ∧ y_M_blocks.cls ≠ "java/lang/invoke/VarHandle" ∧ (parseMethodDescriptor y_M_blocks.desc).map (fun d => d.parameters.length) = some 0 := by decide +kernel
set_option maxHeartbeats 4000000 in
set_option maxRecDepth 100000 in
theorem c_M_blocks (l : Launch) (D : va_G) (k : Nat → Nat) (cI : Nat → ClassId) (n : Nat) (A : Nat → Prop) (hn : 12 ≤ n) (hn2 : n ≤ 24) (d t mk : Nat → BitVec 8)  : Met l y_M_blocks w_M_blocks rm_M_blocks (va_Pc [.ref (k 0)] (mB D k cI n A (mU d t mk))) (va_Qi (fun r v => r = nI n ∧ v = mU d t mk) (mB D k cI n A) A) 0 0 A := by
  refine g_ofW (cc := b_M_blocks) (maxL := 1) (ret := (some .int)) (by decide) rfl (Nat.le_of_ble_eq_true rfl) ?_
  intro p e s m below meth c ls hx hb hml hr hlk hown hts hnm hB hl
  have hown : s.vm.findClass R_M = some m.cls := hown
  have hP := hB.1
  have hK := hB.2.1
  obtain ⟨H, hH⟩ : ∃ H, H = s.heap := ⟨_, rfl⟩
  have hS : va_S A s.heap H [] := by rw [hH]; exact va_S.rf
  rw [← hH] at hP ⊢
  have hl : lv_has ls 1 [(0, .ref (k 0))] := hl
  have z1 : mSz 1 = 12288 := rfl
  have z2 : mSz 2 = 1024 := rfl
  have z3 : mSz 3 = 16 := rfl
  refine lv_aload_n hx hb d_M_blocks_0 rfl (lv_at hl 0 rfl) ?_
  refine va_get (D := D) (ci := 3) (v := .int (nI (n))) (C := R_M) (T := F_M) (N := 4) hx hb hts (fun w h => .tail _ (fi_M w h)) hown hK hP 0 rfl rfl 0 (by decide) (hts _ (.tail _ m_404)) (fun _ h9 => h9) rfl d_M_blocks_1 ?_
  exact g_iret (v := (nI (n))) hx hb hr hlk mW_w mX_x hB hP hS (⟨rfl, rfl⟩) d_M_blocks_4
abbrev w_M_isPlace : List Cond := .code y_M_isPlace b_M_isPlace 3 (some .boolean) :: ALL
abbrev rm_M_isPlace : Room := { frames := 0, cells := 0, slots := 0, locals := 0 }
theorem hd_M_isPlace : y_M_isPlace.cls = R_M ∧ y_M_isPlace.cls ≠ "java/lang/invoke/MethodHandle" ∧ y_M_isPlace.cls ≠ "java/lang/invoke/VarHandle" ∧ (parseMethodDescriptor y_M_isPlace.desc).map (fun d => d.parameters.length) = some 2 := by decide +kernel
set_option maxHeartbeats 4000000 in
set_option maxRecDepth 100000 in
theorem c_M_isPlace (l : Launch) (D : va_G) (k : Nat → Nat) (cI : Nat → ClassId) (n : Nat) (A : Nat → Prop) (hn : 12 ≤ n) (hn2 : n ≤ 24) (d t mk : Nat → BitVec 8) (x y : Int32) : Met l y_M_isPlace w_M_isPlace rm_M_isPlace (va_Pc [.ref (k 0), .int (x), .int (y)] (mB D k cI n A (mU d t mk))) (va_Qi (fun r v => r = bI (inR x n ∧ inR y 512) ∧ v = mU d t mk) (mB D k cI n A) A) 0 0 A := by
  refine g_ofW (cc := b_M_isPlace) (maxL := 3) (ret := (some .boolean)) (by decide) rfl (Nat.le_of_ble_eq_true rfl) ?_
  intro p e s m below meth c ls hx hb hml hr hlk hown hts hnm hB hl
  have hown : s.vm.findClass R_M = some m.cls := hown
  have hP := hB.1
  have hK := hB.2.1
  obtain ⟨H, hH⟩ : ∃ H, H = s.heap := ⟨_, rfl⟩
  have hS : va_S A s.heap H [] := by rw [hH]; exact va_S.rf
  rw [← hH] at hP ⊢
  have hl : lv_has ls 3 [(0, .ref (k 0)), (1, .int (x)), (2, .int (y))] := hl
  have z1 : mSz 1 = 12288 := rfl
  have z2 : mSz 2 = 1024 := rfl
  have z3 : mSz 3 = 16 := rfl
  refine lv_iload_n hx hb d_M_isPlace_0 rfl (lv_at hl 1 rfl) ?_
  refine lv_if_lt (tgt := 27) hx hb d_M_isPlace_1 (by decide) (fun c_1 => ?_) (fun c_1 => ?_)
  · refine lv_iconst (v := nI 0) hx hb d_M_isPlace_27 rfl ?_
    exact g_zret (v := (nI (0))) hx hb hr (rfl) hlk mW_w mX_x hB hP hS (⟨(bI_f (fun z => z.1.1 c_1)).symm, rfl⟩) d_M_isPlace_28
  · refine lv_iload_n hx hb d_M_isPlace_4 rfl (lv_at hl 1 rfl) ?_
    refine lv_aload_n hx hb d_M_isPlace_5 rfl (lv_at hl 0 rfl) ?_
    refine va_get (D := D) (ci := 3) (v := .int (nI (n))) (C := R_M) (T := F_M) (N := 4) hx hb hts (fun w h => .tail _ (fi_M w h)) hown hK hP 0 rfl rfl 0 (by decide) (hts _ (.tail _ m_404)) (fun _ h9 => h9) rfl d_M_isPlace_6 ?_
    refine lv_icmp_ge (tgt := 27) hx hb d_M_isPlace_9 (by decide) (fun c_9 => ?_) (fun c_9 => ?_)
    · refine lv_iconst (v := nI 0) hx hb d_M_isPlace_27 rfl ?_
      exact g_zret (v := (nI (0))) hx hb hr (rfl) hlk mW_w mX_x hB hP hS (⟨(bI_f (fun z => z.1.2 c_9)).symm, rfl⟩) d_M_isPlace_28
    · refine lv_iload_n hx hb d_M_isPlace_12 rfl (lv_at hl 2 rfl) ?_
      refine lv_if_lt (tgt := 27) hx hb d_M_isPlace_13 (by decide) (fun c_13 => ?_) (fun c_13 => ?_)
      · refine lv_iconst (v := nI 0) hx hb d_M_isPlace_27 rfl ?_
        exact g_zret (v := (nI (0))) hx hb hr (rfl) hlk mW_w mX_x hB hP hS (⟨(bI_f (fun z => z.2.1 c_13)).symm, rfl⟩) d_M_isPlace_28
      · refine lv_iload_n hx hb d_M_isPlace_16 rfl (lv_at hl 2 rfl) ?_
        refine lv_sipush (v := nI 512) hx hb d_M_isPlace_17 rfl ?_
        refine lv_icmp_ge (tgt := 27) hx hb d_M_isPlace_20 (by decide) (fun c_20 => ?_) (fun c_20 => ?_)
        · refine lv_iconst (v := nI 0) hx hb d_M_isPlace_27 rfl ?_
          exact g_zret (v := (nI (0))) hx hb hr (rfl) hlk mW_w mX_x hB hP hS (⟨(bI_f (fun z => z.2.2 c_20)).symm, rfl⟩) d_M_isPlace_28
        · refine lv_iconst (v := nI 1) hx hb d_M_isPlace_23 rfl ?_
          refine lv_goto (tgt := 28) hx hb d_M_isPlace_24 (by decide) ?_
          exact g_zret (v := (nI (1))) hx hb hr (rfl) hlk mW_w mX_x hB hP hS (⟨(bI_t ⟨⟨c_1, c_9⟩, c_13, c_20⟩).symm, rfl⟩) d_M_isPlace_28
abbrev w_M_header : List Cond := .code y_M_header b_M_header 2 (some .int) :: ALL
abbrev rm_M_header : Room := { frames := 0, cells := 0, slots := 0, locals := 0 }
theorem hd_M_header : y_M_header.cls = R_M ∧ y_M_header.cls ≠ "java/lang/invoke/MethodHandle" ∧ y_M_header.cls ≠ "java/lang/invoke/VarHandle" ∧ (parseMethodDescriptor y_M_header.desc).map (fun d => d.parameters.length) = some 1 := by decide +kernel
set_option maxHeartbeats 4000000 in
set_option maxRecDepth 100000 in
theorem c_M_header (l : Launch) (D : va_G) (k : Nat → Nat) (cI : Nat → ClassId) (n : Nat) (A : Nat → Prop) (hn : 12 ≤ n) (hn2 : n ≤ 24) (d t mk : Nat → BitVec 8) (j : Nat) (hj : j < 2) : Met l y_M_header w_M_header rm_M_header (va_Pc [.ref (k 0), .int (nI (j))] (mB D k cI n A (mU d t mk))) (va_Qi (fun r v => r = nI (cOwn n j) ∧ v = mU d t mk) (mB D k cI n A) A) 0 0 A := by
  refine g_ofW (cc := b_M_header) (maxL := 2) (ret := (some .int)) (by decide) rfl (Nat.le_of_ble_eq_true rfl) ?_
  intro p e s m below meth c ls hx hb hml hr hlk hown hts hnm hB hl
  have hown : s.vm.findClass R_M = some m.cls := hown
  have hP := hB.1
  have hK := hB.2.1
  obtain ⟨H, hH⟩ : ∃ H, H = s.heap := ⟨_, rfl⟩
  have hS : va_S A s.heap H [] := by rw [hH]; exact va_S.rf
  rw [← hH] at hP ⊢
  have hl : lv_has ls 2 [(0, .ref (k 0)), (1, .int (nI (j)))] := hl
  have z1 : mSz 1 = 12288 := rfl
  have z2 : mSz 2 = 1024 := rfl
  have z3 : mSz 3 = 16 := rfl
  refine lv_iload_n hx hb d_M_header_0 rfl (lv_at hl 1 rfl) ?_
  refine lv_if_ne (tgt := 8) hx hb d_M_header_1 (by decide) (fun c_1 => ?_) (fun c_1 => ?_)
  · refine lv_aload_n hx hb d_M_header_8 rfl (lv_at hl 0 rfl) ?_
    refine va_get (D := D) (ci := 3) (v := .int (nI (n))) (C := R_M) (T := F_M) (N := 4) hx hb hts (fun w h => .tail _ (fi_M w h)) hown hK hP 0 rfl rfl 0 (by decide) (hts _ (.tail _ m_404)) (fun _ h9 => h9) rfl d_M_header_9 ?_
    refine lv_iconst (v := nI 1) hx hb d_M_header_12 rfl ?_
    refine lv_isubN hx hb d_M_header_13 (by omega) ?_
    exact g_iret (v := (nI (n - 1))) hx hb hr hlk mW_w mX_x hB hP hS (⟨by rw [cOwn, if_neg (fun z => c_1 (by rw [z]; rfl))], rfl⟩) d_M_header_14
  · refine lv_iconst (v := nI 1) hx hb d_M_header_4 rfl ?_
    refine lv_goto (tgt := 14) hx hb d_M_header_5 (by decide) ?_
    exact g_iret (v := (nI (1))) hx hb hr hlk mW_w mX_x hB hP hS (⟨by rw [(nI_eq (b := 0) (by omega) (by decide)).mp c_1]; rfl, rfl⟩) d_M_header_14
abbrev w_M_array : List Cond := .code y_M_array b_M_array 2 (some .int) :: ALL
abbrev rm_M_array : Room := { frames := 0, cells := 0, slots := 0, locals := 0 }
theorem hd_M_array : y_M_array.cls = R_M ∧ y_M_array.cls ≠ "java/lang/invoke/MethodHandle" ∧ y_M_array.cls ≠ "java/lang/invoke/VarHandle" ∧ (parseMethodDescriptor y_M_array.desc).map (fun d => d.parameters.length) = some 1 := by decide +kernel
set_option maxHeartbeats 4000000 in
set_option maxRecDepth 100000 in
theorem c_M_array (l : Launch) (D : va_G) (k : Nat → Nat) (cI : Nat → ClassId) (n : Nat) (A : Nat → Prop) (hn : 12 ≤ n) (hn2 : n ≤ 24) (d t mk : Nat → BitVec 8) (j : Nat) (hj : j < 2) : Met l y_M_array w_M_array rm_M_array (va_Pc [.ref (k 0), .int (nI (j))] (mB D k cI n A (mU d t mk))) (va_Qi (fun r v => r = nI (cArr n j) ∧ v = mU d t mk) (mB D k cI n A) A) 0 0 A := by
  refine g_ofW (cc := b_M_array) (maxL := 2) (ret := (some .int)) (by decide) rfl (Nat.le_of_ble_eq_true rfl) ?_
  intro p e s m below meth c ls hx hb hml hr hlk hown hts hnm hB hl
  have hown : s.vm.findClass R_M = some m.cls := hown
  have hP := hB.1
  have hK := hB.2.1
  obtain ⟨H, hH⟩ : ∃ H, H = s.heap := ⟨_, rfl⟩
  have hS : va_S A s.heap H [] := by rw [hH]; exact va_S.rf
  rw [← hH] at hP ⊢
  have hl : lv_has ls 2 [(0, .ref (k 0)), (1, .int (nI (j)))] := hl
  have z1 : mSz 1 = 12288 := rfl
  have z2 : mSz 2 = 1024 := rfl
  have z3 : mSz 3 = 16 := rfl
  refine lv_iload_n hx hb d_M_array_0 rfl (lv_at hl 1 rfl) ?_
  refine lv_if_ne (tgt := 8) hx hb d_M_array_1 (by decide) (fun c_1 => ?_) (fun c_1 => ?_)
  · refine lv_aload_n hx hb d_M_array_8 rfl (lv_at hl 0 rfl) ?_
    refine va_get (D := D) (ci := 3) (v := .int (nI (n))) (C := R_M) (T := F_M) (N := 4) hx hb hts (fun w h => .tail _ (fi_M w h)) hown hK hP 0 rfl rfl 0 (by decide) (hts _ (.tail _ m_404)) (fun _ h9 => h9) rfl d_M_array_9 ?_
    refine lv_iconst (v := nI 3) hx hb d_M_array_12 rfl ?_
    refine lv_isubN hx hb d_M_array_13 (by omega) ?_
    exact g_iret (v := (nI (n - 3))) hx hb hr hlk mW_w mX_x hB hP hS (⟨by rw [cArr, if_neg (fun z => c_1 (by rw [z]; rfl))], rfl⟩) d_M_array_14
  · refine lv_iconst (v := nI 2) hx hb d_M_array_4 rfl ?_
    refine lv_goto (tgt := 14) hx hb d_M_array_5 (by decide) ?_
    exact g_iret (v := (nI (2))) hx hb hr hlk mW_w mX_x hB hP hS (⟨by rw [(nI_eq (b := 0) (by omega) (by decide)).mp c_1]; rfl, rfl⟩) d_M_array_14
abbrev w_M_headerAt : List Cond := .code y_M_headerAt b_M_headerAt 2 (some .int) :: ALL
abbrev rm_M_headerAt : Room := { frames := 1, cells := 0, slots := 0, locals := 21 }
theorem hd_M_headerAt : y_M_headerAt.cls = R_M ∧ y_M_headerAt.cls ≠ "java/lang/invoke/MethodHandle" ∧ y_M_headerAt.cls ≠ "java/lang/invoke/VarHandle" ∧ (parseMethodDescriptor y_M_headerAt.desc).map (fun d => d.parameters.length) = some 1 := by decide +kernel
set_option maxHeartbeats 4000000 in
set_option maxRecDepth 100000 in
theorem c_M_headerAt (l : Launch) (D : va_G) (k : Nat → Nat) (cI : Nat → ClassId) (n : Nat) (A : Nat → Prop) (hn : 12 ≤ n) (hn2 : n ≤ 24) (d t mk : Nat → BitVec 8) (j : Nat) (hj : j < 2) : Met l y_M_headerAt w_M_headerAt rm_M_headerAt (va_Pc [.ref (k 0), .int (nI (j))] (mB D k cI n A (mU d t mk))) (va_Qi (fun r v => r = nI (cHd n j) ∧ v = mU d t mk) (mB D k cI n A) A) 0 0 A := by
  refine g_ofW (cc := b_M_headerAt) (maxL := 2) (ret := (some .int)) (by decide) rfl (Nat.le_of_ble_eq_true rfl) ?_
  intro p e s m below meth c ls hx hb hml hr hlk hown hts hnm hB hl
  have hown : s.vm.findClass R_M = some m.cls := hown
  have hP := hB.1
  have hK := hB.2.1
  obtain ⟨H, hH⟩ : ∃ H, H = s.heap := ⟨_, rfl⟩
  have hS : va_S A s.heap H [] := by rw [hH]; exact va_S.rf
  rw [← hH] at hP ⊢
  have hl : lv_has ls 2 [(0, .ref (k 0)), (1, .int (nI (j)))] := hl
  have z1 : mSz 1 = 12288 := rfl
  have z2 : mSz 2 = 1024 := rfl
  have z3 : mSz 3 = 16 := rfl
  refine lv_sipush (v := nI 512) hx hb d_M_headerAt_0 rfl ?_
  refine lv_aload_n hx hb d_M_headerAt_3 rfl (lv_at hl 0 rfl) ?_
  refine lv_iload_n hx hb d_M_headerAt_4 rfl (lv_at hl 1 rfl) ?_
  refine g_callVi (As := [.int (nI (j))]) (rest := [.int (nI (512))]) ⟨hx, hb, hml, hown, hts⟩ (C := R_M) (index := 46) (c_M_header l D k cI n A hn hn2 (d) (t) (mk) (j) hj) (cwV 1 hts (gd_V m_461 m_463 m_17 m_33 m_464) rfl rfl rfl hd_M_header ⟨Nat.le_of_ble_eq_true rfl, Nat.le_of_ble_eq_true rfl⟩) mW_w mX_x hB hP hS (ci := 3) rfl (0) rfl rfl hl.1 rfl (Nat.le_of_ble_eq_true rfl) d_M_headerAt_5 ⟨Nat.zero_le _, Nat.zero_le _⟩ (fun r_ v_ H locs hw hP hS => ?_)
  obtain ⟨hw1, hw2⟩ := hw; have hw1 := hw1.symm; have hw2 := hw2.symm; subst hw1; subst hw2
  refine lv_imulC hx hb d_M_headerAt_8 ?_
  exact g_iret (v := (nI ((cOwn n j) * 512))) hx hb hr hlk mW_w mX_x hB hP hS (⟨rfl, rfl⟩) d_M_headerAt_9
abbrev w_M_arrayAt : List Cond := .code y_M_arrayAt b_M_arrayAt 2 (some .int) :: ALL
abbrev rm_M_arrayAt : Room := { frames := 1, cells := 0, slots := 0, locals := 21 }
theorem hd_M_arrayAt : y_M_arrayAt.cls = R_M ∧ y_M_arrayAt.cls ≠ "java/lang/invoke/MethodHandle" ∧ y_M_arrayAt.cls ≠ "java/lang/invoke/VarHandle" ∧ (parseMethodDescriptor y_M_arrayAt.desc).map (fun d => d.parameters.length) = some 1 := by decide +kernel
set_option maxHeartbeats 4000000 in
set_option maxRecDepth 100000 in
theorem c_M_arrayAt (l : Launch) (D : va_G) (k : Nat → Nat) (cI : Nat → ClassId) (n : Nat) (A : Nat → Prop) (hn : 12 ≤ n) (hn2 : n ≤ 24) (d t mk : Nat → BitVec 8) (j : Nat) (hj : j < 2) : Met l y_M_arrayAt w_M_arrayAt rm_M_arrayAt (va_Pc [.ref (k 0), .int (nI (j))] (mB D k cI n A (mU d t mk))) (va_Qi (fun r v => r = nI (cAr n j) ∧ v = mU d t mk) (mB D k cI n A) A) 0 0 A := by
  refine g_ofW (cc := b_M_arrayAt) (maxL := 2) (ret := (some .int)) (by decide) rfl (Nat.le_of_ble_eq_true rfl) ?_
  intro p e s m below meth c ls hx hb hml hr hlk hown hts hnm hB hl
  have hown : s.vm.findClass R_M = some m.cls := hown
  have hP := hB.1
  have hK := hB.2.1
  obtain ⟨H, hH⟩ : ∃ H, H = s.heap := ⟨_, rfl⟩
  have hS : va_S A s.heap H [] := by rw [hH]; exact va_S.rf
  rw [← hH] at hP ⊢
  have hl : lv_has ls 2 [(0, .ref (k 0)), (1, .int (nI (j)))] := hl
  have z1 : mSz 1 = 12288 := rfl
  have z2 : mSz 2 = 1024 := rfl
  have z3 : mSz 3 = 16 := rfl
  refine lv_sipush (v := nI 512) hx hb d_M_arrayAt_0 rfl ?_
  refine lv_aload_n hx hb d_M_arrayAt_3 rfl (lv_at hl 0 rfl) ?_
  refine lv_iload_n hx hb d_M_arrayAt_4 rfl (lv_at hl 1 rfl) ?_
  refine g_callVi (As := [.int (nI (j))]) (rest := [.int (nI (512))]) ⟨hx, hb, hml, hown, hts⟩ (C := R_M) (index := 50) (c_M_array l D k cI n A hn hn2 (d) (t) (mk) (j) hj) (cwV 1 hts (gd_V m_471 m_473 m_18 m_33 m_474) rfl rfl rfl hd_M_array ⟨Nat.le_of_ble_eq_true rfl, Nat.le_of_ble_eq_true rfl⟩) mW_w mX_x hB hP hS (ci := 3) rfl (0) rfl rfl hl.1 rfl (Nat.le_of_ble_eq_true rfl) d_M_arrayAt_5 ⟨Nat.zero_le _, Nat.zero_le _⟩ (fun r_ v_ H locs hw hP hS => ?_)
  obtain ⟨hw1, hw2⟩ := hw; have hw1 := hw1.symm; have hw2 := hw2.symm; subst hw1; subst hw2
  refine lv_imulC hx hb d_M_arrayAt_8 ?_
  exact g_iret (v := (nI ((cArr n j) * 512))) hx hb hr hlk mW_w mX_x hB hP hS (⟨rfl, rfl⟩) d_M_arrayAt_9
abbrev w_M_letterOf : List Cond := .code y_M_letterOf b_M_letterOf 1 (some .int) :: ALL
abbrev rm_M_letterOf : Room := { frames := 0, cells := 0, slots := 0, locals := 0 }
theorem hd_M_letterOf : y_M_letterOf.cls = R_M ∧ y_M_letterOf.cls ≠ "java/lang/invoke/MethodHandle" ∧ y_M_letterOf.cls ≠ "java/lang/invoke/VarHandle" ∧ (parseMethodDescriptor y_M_letterOf.desc).map (fun d => d.parameters.length) = some 1 := by decide +kernel
set_option maxHeartbeats 4000000 in
set_option maxRecDepth 100000 in
theorem c_M_letterOf (l : Launch) (D : va_G) (k : Nat → Nat) (cI : Nat → ClassId) (n : Nat) (A : Nat → Prop) (hn : 12 ≤ n) (hn2 : n ≤ 24) (u : Nat → Nat → BitVec 8) (i : Nat) (hi : i < 8) : Met l y_M_letterOf w_M_letterOf rm_M_letterOf (va_Pc [.int (nI (i))] (mB D k cI n A u)) (va_Qi (fun r v => r = zx (byt 6075990659671082565 i) ∧ v = u) (mB D k cI n A) A) 0 0 A := by
  refine g_ofW (cc := b_M_letterOf) (maxL := 1) (ret := (some .int)) (by decide) rfl (Nat.le_of_ble_eq_true rfl) ?_
  intro p e s m below meth c ls hx hb hml hr hlk hown hts hnm hB hl
  have hown : s.vm.findClass R_M = some m.cls := hown
  have hP := hB.1
  have hK := hB.2.1
  have hS : va_S A s.heap s.heap [] := va_S.rf
  have hl : lv_has ls 1 [(0, .int (nI (i)))] := hl
  have z1 : mSz 1 = 12288 := rfl
  have z2 : mSz 2 = 1024 := rfl
  have z3 : mSz 3 = 16 := rfl
  refine lv_iload_n hx hb d_M_letterOf_0 rfl (lv_at hl 0 rfl) ?_
  rcases (show i = 0 ∨ i = 1 ∨ i = 2 ∨ i = 3 ∨ i = 4 ∨ i = 5 ∨ i = 6 ∨ i = 7 by omega) with rfl | rfl | rfl | rfl | rfl | rfl | rfl | rfl
  · refine lv_tableIn (tgt := 44) hx hb d_M_letterOf_1 (by decide) (by decide) (off := 43) (by decide) (by decide) ?_
    refine lv_bipush (v := nI 69) hx hb d_M_letterOf_44 rfl ?_
    exact g_iret (v := (nI (69))) hx hb hr hlk mW_w mX_x hB hP hS (⟨by decide +kernel, rfl⟩) d_M_letterOf_46
  · refine lv_tableIn (tgt := 47) hx hb d_M_letterOf_1 (by decide) (by decide) (off := 46) (by decide) (by decide) ?_
    refine lv_bipush (v := nI 70) hx hb d_M_letterOf_47 rfl ?_
    exact g_iret (v := (nI (70))) hx hb hr hlk mW_w mX_x hB hP hS (⟨by decide +kernel, rfl⟩) d_M_letterOf_49
  · refine lv_tableIn (tgt := 50) hx hb d_M_letterOf_1 (by decide) (by decide) (off := 49) (by decide) (by decide) ?_
    refine lv_bipush (v := nI 73) hx hb d_M_letterOf_50 rfl ?_
    exact g_iret (v := (nI (73))) hx hb hr hlk mW_w mX_x hB hP hS (⟨by decide +kernel, rfl⟩) d_M_letterOf_52
  · refine lv_tableIn (tgt := 53) hx hb d_M_letterOf_1 (by decide) (by decide) (off := 52) (by decide) (by decide) ?_
    refine lv_bipush (v := nI 32) hx hb d_M_letterOf_53 rfl ?_
    exact g_iret (v := (nI (32))) hx hb hr hlk mW_w mX_x hB hP hS (⟨by decide +kernel, rfl⟩) d_M_letterOf_55
  · refine lv_tableIn (tgt := 56) hx hb d_M_letterOf_1 (by decide) (by decide) (off := 55) (by decide) (by decide) ?_
    refine lv_bipush (v := nI 80) hx hb d_M_letterOf_56 rfl ?_
    exact g_iret (v := (nI (80))) hx hb hr hlk mW_w mX_x hB hP hS (⟨by decide +kernel, rfl⟩) d_M_letterOf_58
  · refine lv_tableIn (tgt := 59) hx hb d_M_letterOf_1 (by decide) (by decide) (off := 58) (by decide) (by decide) ?_
    refine lv_bipush (v := nI 65) hx hb d_M_letterOf_59 rfl ?_
    exact g_iret (v := (nI (65))) hx hb hr hlk mW_w mX_x hB hP hS (⟨by decide +kernel, rfl⟩) d_M_letterOf_61
  · refine lv_tableIn (tgt := 62) hx hb d_M_letterOf_1 (by decide) (by decide) (off := 61) (by decide) (by decide) ?_
    refine lv_bipush (v := nI 82) hx hb d_M_letterOf_62 rfl ?_
    exact g_iret (v := (nI (82))) hx hb hr hlk mW_w mX_x hB hP hS (⟨by decide +kernel, rfl⟩) d_M_letterOf_64
  · refine lv_tableOut (tgt := 65) hx hb d_M_letterOf_1 (by decide) (by decide) ?_
    refine lv_bipush (v := nI 84) hx hb d_M_letterOf_65 rfl ?_
    exact g_iret (v := (nI (84))) hx hb hr hlk mW_w mX_x hB hP hS (⟨by decide +kernel, rfl⟩) d_M_letterOf_67
abbrev w_M_badRange : List Cond := .code y_M_badRange b_M_badRange 5 (some .boolean) :: ALL
abbrev rm_M_badRange : Room := { frames := 0, cells := 0, slots := 0, locals := 0 }
theorem hd_M_badRange : y_M_badRange.cls = R_M ∧ y_M_badRange.cls ≠ "java/lang/invoke/MethodHandle" ∧ y_M_badRange.cls ≠ "java/lang/invoke/VarHandle" ∧ (parseMethodDescriptor y_M_badRange.desc).map (fun d => d.parameters.length) = some 2 := by decide +kernel
set_option maxHeartbeats 4000000 in
set_option maxRecDepth 100000 in
theorem c_M_badRange (l : Launch) (D : va_G) (k : Nat → Nat) (cI : Nat → ClassId) (n : Nat) (A : Nat → Prop) (hn : 12 ≤ n) (hn2 : n ≤ 24) (d t mk : Nat → BitVec 8) (x y : Int64) : Met l y_M_badRange w_M_badRange rm_M_badRange (va_Pc [.ref (k 0), .long (x), .long (y)] (mB D k cI n A (mU d t mk))) (va_Qi (fun r v => r = bI (¬ usa n x y) ∧ v = mU d t mk) (mB D k cI n A) A) 0 0 A := by
  refine g_ofW (cc := b_M_badRange) (maxL := 5) (ret := (some .boolean)) (by decide) rfl (Nat.le_of_ble_eq_true rfl) ?_
  intro p e s m below meth c ls hx hb hml hr hlk hown hts hnm hB hl
  have hown : s.vm.findClass R_M = some m.cls := hown
  have hP := hB.1
  have hK := hB.2.1
  obtain ⟨H, hH⟩ : ∃ H, H = s.heap := ⟨_, rfl⟩
  have hS : va_S A s.heap H [] := by rw [hH]; exact va_S.rf
  rw [← hH] at hP ⊢
  have hl : lv_has ls 5 [(0, .ref (k 0)), (1, .long (x)), (3, .long (y))] := hl
  have z1 : mSz 1 = 12288 := rfl
  have z2 : mSz 2 = 1024 := rfl
  have z3 : mSz 3 = 16 := rfl
  refine lv_lload_n hx hb d_M_badRange_0 rfl (lv_at hl 1 rfl) ?_
  refine lv_ldc2 (v := 4) hx hb hown (hts _ (.tail _ m_470)) d_M_badRange_1 ?_
  refine W.lcmp hx hb d_M_badRange_4 ?_
  refine lv_if_lt (tgt := 26) hx hb d_M_badRange_5 (by decide) (fun c_5 => ?_) (fun c_5 => ?_)
  · have c_5 := (lg_cmp_lt _ _).mp c_5
    refine lv_iconst (v := nI 1) hx hb d_M_badRange_26 rfl ?_
    refine lv_goto (tgt := 31) hx hb d_M_badRange_27 (by decide) ?_
    exact g_zret (v := (nI (1))) hx hb hr (rfl) hlk mW_w mX_x hB hP hS (⟨(bI_t (fun z => z.1 c_5)).symm, rfl⟩) d_M_badRange_31
  · have c_5 := fun z => c_5 ((lg_cmp_lt _ _).mpr z)
    refine lv_lload_n hx hb d_M_badRange_8 rfl (lv_at hl 2 rfl) ?_
    refine lv_aload_n hx hb d_M_badRange_9 rfl (lv_at hl 0 rfl) ?_
    refine va_get (D := D) (ci := 3) (v := .int (nI (n))) (C := R_M) (T := F_M) (N := 4) hx hb hts (fun w h => .tail _ (fi_M w h)) hown hK hP 0 rfl rfl 0 (by decide) (hts _ (.tail _ m_404)) (fun _ h9 => h9) rfl d_M_badRange_10 ?_
    refine lv_iconst (v := nI 4) hx hb d_M_badRange_13 rfl ?_
    refine lv_isubN hx hb d_M_badRange_14 (by omega) ?_
    refine lv_i2l hx hb d_M_badRange_15 rfl ?_
    refine W.lcmp hx hb d_M_badRange_16 ?_
    refine lv_if_gt (tgt := 26) hx hb d_M_badRange_17 (by decide) (fun c_17 => ?_) (fun c_17 => ?_)
    · have c_17 := (lg_cmp_gt _ _).mp c_17
      refine lv_iconst (v := nI 1) hx hb d_M_badRange_26 rfl ?_
      refine lv_goto (tgt := 31) hx hb d_M_badRange_27 (by decide) ?_
      exact g_zret (v := (nI (1))) hx hb hr (rfl) hlk mW_w mX_x hB hP hS (⟨(bI_t (fun z => z.2.1 c_17)).symm, rfl⟩) d_M_badRange_31
    · have c_17 := fun z => c_17 ((lg_cmp_gt _ _).mpr z)
      refine lv_lload_n hx hb d_M_badRange_20 rfl (lv_at hl 1 rfl) ?_
      refine lv_lload_n hx hb d_M_badRange_21 rfl (lv_at hl 2 rfl) ?_
      refine W.lcmp hx hb d_M_badRange_22 ?_
      refine lv_if_le (tgt := 30) hx hb d_M_badRange_23 (by decide) (fun c_23 => ?_) (fun c_23 => ?_)
      · have c_23 := (lg_cmp_le _ _).mp c_23
        refine lv_iconst (v := nI 0) hx hb d_M_badRange_30 rfl ?_
        exact g_zret (v := (nI (0))) hx hb hr (rfl) hlk mW_w mX_x hB hP hS (⟨(bI_f (fun z => z ⟨c_5, c_17, Int64.not_lt.mpr c_23⟩)).symm, rfl⟩) d_M_badRange_31
      · have c_23 := fun z => c_23 ((lg_cmp_le _ _).mpr z)
        refine lv_iconst (v := nI 1) hx hb d_M_badRange_26 rfl ?_
        refine lv_goto (tgt := 31) hx hb d_M_badRange_27 (by decide) ?_
        exact g_zret (v := (nI (1))) hx hb hr (rfl) hlk mW_w mX_x hB hP hS (⟨(bI_t (fun z => z.2.2 (Int64.not_le.mp c_23))).symm, rfl⟩) d_M_badRange_31
