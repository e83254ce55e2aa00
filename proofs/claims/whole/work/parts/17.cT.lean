abbrev w_T_blocks : List Cond := .code y_T_blocks b_T_blocks 1 (some .int) :: ALL
abbrev rm_T_blocks : Room := { frames := 0, cells := 0, slots := 0, locals := 0 }
theorem hd_T_blocks : y_T_blocks.cls = R_T ∧ y_T_blocks.cls ≠ "java/lang/invoke/MethodHandle" ∧ y_T_blocks.cls ≠ "java/lang/invoke/VarHandle" ∧ (parseMethodDescriptor y_T_blocks.desc).map (fun d => d.parameters.length) = some 0 := by decide +kernel
set_option maxHeartbeats 4000000 in
set_option maxRecDepth 100000 in
theorem c_T_blocks (l : Launch) (D : va_G) (h : Nat → Nat) (cA : ClassId) (n tb : Nat) (A : Nat → Prop) (hn : 12 ≤ n) (hn2 : n ≤ 24) (d : Nat → BitVec 8)  : Met l y_T_blocks w_T_blocks rm_T_blocks (va_Pc [.ref (h 0)] (cB D h cA n tb A d)) (va_Qi (fun r v => r = nI n ∧ v = d) (cB D h cA n tb A) A) 0 0 A := by
  refine g_ofW (cc := b_T_blocks) (maxL := 1) (ret := (some .int)) (by decide) rfl (Nat.le_of_ble_eq_true rfl) ?_
  intro p e s m below meth c ls hx hb hml hr hlk hown hts hnm hB hl
  have hown : s.vm.findClass R_T = some m.cls := hown
  have hP := hB.1
  have hK := hB.2.1
  have hS : va_S A s.heap s.heap [] := va_S.rf
  have hl : lv_has ls 1 [(0, .ref (h 0))] := hl
  refine lv_aload_n hx hb d_T_blocks_0 rfl (lv_at hl 0 rfl) ?_
  refine va_get (D := D) (ci := 0) (v := .int (nI (n))) (C := R_T) (T := F_T) (N := 4) hx hb hts (fun w h => .tail _ (fi_T w h)) hown hK hP 0 rfl rfl 0 (by decide) (hts _ (.tail _ m_86)) (fun _ h9 => h9) rfl d_T_blocks_1 ?_
  exact g_iret (v := (nI (n))) hx hb hr hlk cW_w cX_x hB hP hS (⟨rfl, rfl⟩) d_T_blocks_4
abbrev w_T_isBlock : List Cond := .code y_T_isBlock b_T_isBlock 2 (some .boolean) :: ALL
abbrev rm_T_isBlock : Room := { frames := 0, cells := 0, slots := 0, locals := 0 }
theorem hd_T_isBlock : y_T_isBlock.cls = R_T ∧ y_T_isBlock.cls ≠ "java/lang/invoke/MethodHandle" ∧ y_T_isBlock.cls ≠ "java/lang/invoke/VarHandle" ∧ (parseMethodDescriptor y_T_isBlock.desc).map (fun d => d.parameters.length) = some 1 := by decide +kernel
set_option maxHeartbeats 4000000 in
set_option maxRecDepth 100000 in
theorem c_T_isBlock (l : Launch) (D : va_G) (h : Nat → Nat) (cA : ClassId) (n tb : Nat) (A : Nat → Prop) (hn : 12 ≤ n) (hn2 : n ≤ 24) (d : Nat → BitVec 8) (x : Int32) : Met l y_T_isBlock w_T_isBlock rm_T_isBlock (va_Pc [.ref (h 0), .int (x)] (cB D h cA n tb A d)) (va_Qi (fun r v => r = bI (inR x n) ∧ v = d) (cB D h cA n tb A) A) 0 0 A := by
  refine g_ofW (cc := b_T_isBlock) (maxL := 2) (ret := (some .boolean)) (by decide) rfl (Nat.le_of_ble_eq_true rfl) ?_
  intro p e s m below meth c ls hx hb hml hr hlk hown hts hnm hB hl
  have hown : s.vm.findClass R_T = some m.cls := hown
  have hP := hB.1
  have hK := hB.2.1
  have hS : va_S A s.heap s.heap [] := va_S.rf
  have hl : lv_has ls 2 [(0, .ref (h 0)), (1, .int (x))] := hl
  refine lv_iload_n hx hb d_T_isBlock_0 rfl (lv_at hl 1 rfl) ?_
  refine lv_if_lt (tgt := 16) hx hb d_T_isBlock_1 (by decide) (fun c_1 => ?_) (fun c_1 => ?_)
  · refine lv_iconst (v := nI 0) hx hb d_T_isBlock_16 rfl ?_
    exact g_zret (v := (nI (0))) hx hb hr (rfl) hlk cW_w cX_x hB hP hS (⟨(bI_f (fun z => z.1 c_1)).symm, rfl⟩) d_T_isBlock_17
  · refine lv_iload_n hx hb d_T_isBlock_4 rfl (lv_at hl 1 rfl) ?_
    refine lv_aload_n hx hb d_T_isBlock_5 rfl (lv_at hl 0 rfl) ?_
    refine va_get (D := D) (ci := 0) (v := .int (nI (n))) (C := R_T) (T := F_T) (N := 4) hx hb hts (fun w h => .tail _ (fi_T w h)) hown hK hP 0 rfl rfl 0 (by decide) (hts _ (.tail _ m_86)) (fun _ h9 => h9) rfl d_T_isBlock_6 ?_
    refine lv_icmp_ge (tgt := 16) hx hb d_T_isBlock_9 (by decide) (fun c_9 => ?_) (fun c_9 => ?_)
    · refine lv_iconst (v := nI 0) hx hb d_T_isBlock_16 rfl ?_
      exact g_zret (v := (nI (0))) hx hb hr (rfl) hlk cW_w cX_x hB hP hS (⟨(bI_f (fun z => z.2 c_9)).symm, rfl⟩) d_T_isBlock_17
    · refine lv_iconst (v := nI 1) hx hb d_T_isBlock_12 rfl ?_
      refine lv_goto (tgt := 17) hx hb d_T_isBlock_13 (by decide) ?_
      exact g_zret (v := (nI (1))) hx hb hr (rfl) hlk cW_w cX_x hB hP hS (⟨(bI_t ⟨c_1, c_9⟩).symm, rfl⟩) d_T_isBlock_17
abbrev w_T_isPlace : List Cond := .code y_T_isPlace b_T_isPlace 3 (some .boolean) :: ALL
abbrev rm_T_isPlace : Room := { frames := 1, cells := 0, slots := 0, locals := 21 }
theorem hd_T_isPlace : y_T_isPlace.cls = R_T ∧ y_T_isPlace.cls ≠ "java/lang/invoke/MethodHandle" ∧ y_T_isPlace.cls ≠ "java/lang/invoke/VarHandle" ∧ (parseMethodDescriptor y_T_isPlace.desc).map (fun d => d.parameters.length) = some 2 := by decide +kernel
set_option maxHeartbeats 4000000 in
set_option maxRecDepth 100000 in
theorem c_T_isPlace (l : Launch) (D : va_G) (h : Nat → Nat) (cA : ClassId) (n tb : Nat) (A : Nat → Prop) (hn : 12 ≤ n) (hn2 : n ≤ 24) (d : Nat → BitVec 8) (x y : Int32) : Met l y_T_isPlace w_T_isPlace rm_T_isPlace (va_Pc [.ref (h 0), .int (x), .int (y)] (cB D h cA n tb A d)) (va_Qi (fun r v => r = bI (inR x n ∧ inR y 512) ∧ v = d) (cB D h cA n tb A) A) 0 0 A := by
  refine g_ofW (cc := b_T_isPlace) (maxL := 3) (ret := (some .boolean)) (by decide) rfl (Nat.le_of_ble_eq_true rfl) ?_
  intro p e s m below meth c ls hx hb hml hr hlk hown hts hnm hB hl
  have hown : s.vm.findClass R_T = some m.cls := hown
  have hP := hB.1
  have hK := hB.2.1
  have hS : va_S A s.heap s.heap [] := va_S.rf
  have hl : lv_has ls 3 [(0, .ref (h 0)), (1, .int (x)), (2, .int (y))] := hl
  refine lv_aload_n hx hb d_T_isPlace_0 rfl (lv_at hl 0 rfl) ?_
  refine lv_iload_n hx hb d_T_isPlace_1 rfl (lv_at hl 1 rfl) ?_
  refine g_callVi (As := [.int (x)]) (rest := []) ⟨hx, hb, hml, hown, hts⟩ (C := R_T) (index := 156) (c_T_isBlock l D h cA n tb A hn hn2 (d) (x)) (cwV 1 hts (gd_V m_111 m_113 m_1 m_30 m_114) rfl rfl rfl hd_T_isBlock ⟨Nat.le_of_ble_eq_true rfl, Nat.le_of_ble_eq_true rfl⟩) cW_w cX_x hB hP hS (ci := 0) rfl (0) rfl rfl hl.1 rfl (Nat.le_of_ble_eq_true rfl) d_T_isPlace_2 ⟨Nat.zero_le _, Nat.zero_le _⟩ (fun r_ v_ H locs hw hP hS => ?_)
  obtain ⟨hw1, hw2⟩ := hw; have hw1 := hw1.symm; have hw2 := hw2.symm; subst hw1; subst hw2
  refine lv_if_eq (tgt := 23) hx hb d_T_isPlace_5 (by decide) (fun c_5 => ?_) (fun c_5 => ?_)
  · have c_5 := bI_0.mp c_5
    refine lv_iconst (v := nI 0) hx hb d_T_isPlace_23 rfl ?_
    exact g_zret (v := (nI (0))) hx hb hr (rfl) hlk cW_w cX_x hB hP hS (⟨(bI_f (fun z => c_5 z.1)).symm, rfl⟩) d_T_isPlace_24
  · have c_5 := bI_1 c_5
    refine lv_iload_n hx hb d_T_isPlace_8 rfl (lv_at hl 2 rfl) ?_
    refine lv_if_lt (tgt := 23) hx hb d_T_isPlace_9 (by decide) (fun c_9 => ?_) (fun c_9 => ?_)
    · refine lv_iconst (v := nI 0) hx hb d_T_isPlace_23 rfl ?_
      exact g_zret (v := (nI (0))) hx hb hr (rfl) hlk cW_w cX_x hB hP hS (⟨(bI_f (fun z => z.2.1 c_9)).symm, rfl⟩) d_T_isPlace_24
    · refine lv_iload_n hx hb d_T_isPlace_12 rfl (lv_at hl 2 rfl) ?_
      refine lv_sipush (v := nI 512) hx hb d_T_isPlace_13 rfl ?_
      refine lv_icmp_ge (tgt := 23) hx hb d_T_isPlace_16 (by decide) (fun c_16 => ?_) (fun c_16 => ?_)
      · refine lv_iconst (v := nI 0) hx hb d_T_isPlace_23 rfl ?_
        exact g_zret (v := (nI (0))) hx hb hr (rfl) hlk cW_w cX_x hB hP hS (⟨(bI_f (fun z => z.2.2 c_16)).symm, rfl⟩) d_T_isPlace_24
      · refine lv_iconst (v := nI 1) hx hb d_T_isPlace_19 rfl ?_
        refine lv_goto (tgt := 24) hx hb d_T_isPlace_20 (by decide) ?_
        exact g_zret (v := (nI (1))) hx hb hr (rfl) hlk cW_w cX_x hB hP hS (⟨(bI_t ⟨c_5, c_9, c_16⟩).symm, rfl⟩) d_T_isPlace_24
abbrev w_T_isEntry : List Cond := .code y_T_isEntry b_T_isEntry 1 (some .boolean) :: ALL
abbrev rm_T_isEntry : Room := { frames := 0, cells := 0, slots := 0, locals := 0 }
theorem hd_T_isEntry : y_T_isEntry.cls = R_T ∧ y_T_isEntry.cls ≠ "java/lang/invoke/MethodHandle" ∧ y_T_isEntry.cls ≠ "java/lang/invoke/VarHandle" ∧ (parseMethodDescriptor y_T_isEntry.desc).map (fun d => d.parameters.length) = some 1 := by decide +kernel
set_option maxHeartbeats 4000000 in
set_option maxRecDepth 100000 in
theorem c_T_isEntry (l : Launch) (D : va_G) (h : Nat → Nat) (cA : ClassId) (n tb : Nat) (A : Nat → Prop) (hn : 12 ≤ n) (hn2 : n ≤ 24) (d : Nat → BitVec 8) (x : Int32) : Met l y_T_isEntry w_T_isEntry rm_T_isEntry (va_Pc [.int (x)] (cB D h cA n tb A d)) (va_Qi (fun r v => r = bI (inR x 8) ∧ v = d) (cB D h cA n tb A) A) 0 0 A := by
  refine g_ofW (cc := b_T_isEntry) (maxL := 1) (ret := (some .boolean)) (by decide) rfl (Nat.le_of_ble_eq_true rfl) ?_
  intro p e s m below meth c ls hx hb hml hr hlk hown hts hnm hB hl
  have hown : s.vm.findClass R_T = some m.cls := hown
  have hP := hB.1
  have hK := hB.2.1
  have hS : va_S A s.heap s.heap [] := va_S.rf
  have hl : lv_has ls 1 [(0, .int (x))] := hl
  refine lv_iload_n hx hb d_T_isEntry_0 rfl (lv_at hl 0 rfl) ?_
  refine lv_if_lt (tgt := 14) hx hb d_T_isEntry_1 (by decide) (fun c_1 => ?_) (fun c_1 => ?_)
  · refine lv_iconst (v := nI 0) hx hb d_T_isEntry_14 rfl ?_
    exact g_zret (v := (nI (0))) hx hb hr (rfl) hlk cW_w cX_x hB hP hS (⟨(bI_f (fun z => z.1 c_1)).symm, rfl⟩) d_T_isEntry_15
  · refine lv_iload_n hx hb d_T_isEntry_4 rfl (lv_at hl 0 rfl) ?_
    refine lv_bipush (v := nI 8) hx hb d_T_isEntry_5 rfl ?_
    refine lv_icmp_ge (tgt := 14) hx hb d_T_isEntry_7 (by decide) (fun c_7 => ?_) (fun c_7 => ?_)
    · refine lv_iconst (v := nI 0) hx hb d_T_isEntry_14 rfl ?_
      exact g_zret (v := (nI (0))) hx hb hr (rfl) hlk cW_w cX_x hB hP hS (⟨(bI_f (fun z => z.2 c_7)).symm, rfl⟩) d_T_isEntry_15
    · refine lv_iconst (v := nI 1) hx hb d_T_isEntry_10 rfl ?_
      refine lv_goto (tgt := 15) hx hb d_T_isEntry_11 (by decide) ?_
      exact g_zret (v := (nI (1))) hx hb hr (rfl) hlk cW_w cX_x hB hP hS (⟨(bI_t ⟨c_1, c_7⟩).symm, rfl⟩) d_T_isEntry_15
abbrev w_T_isLetter : List Cond := .code y_T_isLetter b_T_isLetter 1 (some .boolean) :: ALL
abbrev rm_T_isLetter : Room := { frames := 0, cells := 0, slots := 0, locals := 0 }
theorem hd_T_isLetter : y_T_isLetter.cls = R_T ∧ y_T_isLetter.cls ≠ "java/lang/invoke/MethodHandle" ∧ y_T_isLetter.cls ≠ "java/lang/invoke/VarHandle" ∧ (parseMethodDescriptor y_T_isLetter.desc).map (fun d => d.parameters.length) = some 1 := by decide +kernel
set_option maxHeartbeats 4000000 in
set_option maxRecDepth 100000 in
theorem c_T_isLetter (l : Launch) (D : va_G) (h : Nat → Nat) (cA : ClassId) (n tb : Nat) (A : Nat → Prop) (hn : 12 ≤ n) (hn2 : n ≤ 24) (d : Nat → BitVec 8) (x : Int32) : Met l y_T_isLetter w_T_isLetter rm_T_isLetter (va_Pc [.int (x)] (cB D h cA n tb A d)) (va_Qi (fun r v => r = bI (inR x 36) ∧ v = d) (cB D h cA n tb A) A) 0 0 A := by
  refine g_ofW (cc := b_T_isLetter) (maxL := 1) (ret := (some .boolean)) (by decide) rfl (Nat.le_of_ble_eq_true rfl) ?_
  intro p e s m below meth c ls hx hb hml hr hlk hown hts hnm hB hl
  have hown : s.vm.findClass R_T = some m.cls := hown
  have hP := hB.1
  have hK := hB.2.1
  have hS : va_S A s.heap s.heap [] := va_S.rf
  have hl : lv_has ls 1 [(0, .int (x))] := hl
  refine lv_iload_n hx hb d_T_isLetter_0 rfl (lv_at hl 0 rfl) ?_
  refine lv_if_lt (tgt := 14) hx hb d_T_isLetter_1 (by decide) (fun c_1 => ?_) (fun c_1 => ?_)
  · refine lv_iconst (v := nI 0) hx hb d_T_isLetter_14 rfl ?_
    exact g_zret (v := (nI (0))) hx hb hr (rfl) hlk cW_w cX_x hB hP hS (⟨(bI_f (fun z => z.1 c_1)).symm, rfl⟩) d_T_isLetter_15
  · refine lv_iload_n hx hb d_T_isLetter_4 rfl (lv_at hl 0 rfl) ?_
    refine lv_bipush (v := nI 36) hx hb d_T_isLetter_5 rfl ?_
    refine lv_icmp_ge (tgt := 14) hx hb d_T_isLetter_7 (by decide) (fun c_7 => ?_) (fun c_7 => ?_)
    · refine lv_iconst (v := nI 0) hx hb d_T_isLetter_14 rfl ?_
      exact g_zret (v := (nI (0))) hx hb hr (rfl) hlk cW_w cX_x hB hP hS (⟨(bI_f (fun z => z.2 c_7)).symm, rfl⟩) d_T_isLetter_15
    · refine lv_iconst (v := nI 1) hx hb d_T_isLetter_10 rfl ?_
      refine lv_goto (tgt := 15) hx hb d_T_isLetter_11 (by decide) ?_
      exact g_zret (v := (nI (1))) hx hb hr (rfl) hlk cW_w cX_x hB hP hS (⟨(bI_t ⟨c_1, c_7⟩).symm, rfl⟩) d_T_isLetter_15
abbrev w_T_peek : List Cond := .code y_T_peek b_T_peek 3 (some .int) :: ALL
abbrev rm_T_peek : Room := { frames := 2, cells := 0, slots := 0, locals := 43 }
theorem hd_T_peek : y_T_peek.cls = R_T ∧ y_T_peek.cls ≠ "java/lang/invoke/MethodHandle" ∧ y_T_peek.cls ≠ "java/lang/invoke/VarHandle" ∧ (parseMethodDescriptor y_T_peek.desc).map (fun d => d.parameters.length) = some 2 := by decide +kernel
set_option maxHeartbeats 4000000 in
set_option maxRecDepth 100000 in
theorem c_T_peek (l : Launch) (D : va_G) (h : Nat → Nat) (cA : ClassId) (n tb : Nat) (A : Nat → Prop) (hn : 12 ≤ n) (hn2 : n ≤ 24) (d : Nat → BitVec 8) (x y : Int32) : Met l y_T_peek w_T_peek rm_T_peek (va_Pc [.ref (h 0), .int (x), .int (y)] (cB D h cA n tb A d)) (va_Qi (fun r v => r = pkR n d x y ∧ v = d) (cB D h cA n tb A) A) 0 0 A := by
  refine g_ofW (cc := b_T_peek) (maxL := 3) (ret := (some .int)) (by decide) rfl (Nat.le_of_ble_eq_true rfl) ?_
  intro p e s m below meth c ls hx hb hml hr hlk hown hts hnm hB hl
  have hown : s.vm.findClass R_T = some m.cls := hown
  have hP := hB.1
  have hK := hB.2.1
  have hS : va_S A s.heap s.heap [] := va_S.rf
  have hl : lv_has ls 3 [(0, .ref (h 0)), (1, .int (x)), (2, .int (y))] := hl
  refine lv_aload_n hx hb d_T_peek_0 rfl (lv_at hl 0 rfl) ?_
  refine lv_iload_n hx hb d_T_peek_1 rfl (lv_at hl 1 rfl) ?_
  refine lv_iload_n hx hb d_T_peek_2 rfl (lv_at hl 2 rfl) ?_
  refine g_callVi (As := [.int (x), .int (y)]) (rest := []) ⟨hx, hb, hml, hown, hts⟩ (C := R_T) (index := 34) (c_T_isPlace l D h cA n tb A hn hn2 (d) (x) (y)) (cwV 2 hts (gd_V m_107 m_109 m_0 m_30 m_110) rfl rfl rfl hd_T_isPlace ⟨Nat.le_of_ble_eq_true rfl, Nat.le_of_ble_eq_true rfl⟩) cW_w cX_x hB hP hS (ci := 0) rfl (0) rfl rfl hl.1 rfl (Nat.le_of_ble_eq_true rfl) d_T_peek_3 ⟨Nat.zero_le _, Nat.zero_le _⟩ (fun r_ v_ H locs hw hP hS => ?_)
  obtain ⟨hw1, hw2⟩ := hw; have hw1 := hw1.symm; have hw2 := hw2.symm; subst hw1; subst hw2
  refine lv_if_eq (tgt := 26) hx hb d_T_peek_6 (by decide) (fun c_6 => ?_) (fun c_6 => ?_)
  · have c_6 := bI_0.mp c_6
    refine lv_iconst (v := -1) hx hb d_T_peek_26 rfl ?_
    exact g_iret (v := (-1)) hx hb hr hlk cW_w cX_x hB hP hS (⟨(cI_f c_6).symm, rfl⟩) d_T_peek_27
  · have c_6 := bI_1 c_6
    obtain ⟨a, ha, rfl⟩ := inR_ex (by omega) c_6.1
    obtain ⟨b, hb2, rfl⟩ := inR_ex (by omega) c_6.2
    refine lv_aload_n hx hb d_T_peek_9 rfl (lv_at hl 0 rfl) ?_
    refine va_get (D := D) (ci := 0) (v := .ref (h 1)) (C := R_T) (T := F_T) (N := 4) hx hb hts (fun w h => .tail _ (fi_T w h)) hown hK hP 0 rfl rfl 1 (by decide) (hts _ (.tail _ m_87)) (fun _ h9 => h9) rfl d_T_peek_10 ?_
    refine lv_iload_n hx hb d_T_peek_13 rfl (lv_at hl 1 rfl) ?_
    refine lv_sipush (v := nI 512) hx hb d_T_peek_14 rfl ?_
    refine lv_imulN hx hb d_T_peek_17 ?_
    refine lv_iload_n hx hb d_T_peek_18 rfl (lv_at hl 2 rfl) ?_
    refine lv_iaddN hx hb d_T_peek_19 ?_
    refine g_callVi (As := [.int (nI ((a * 512) + b))]) (rest := []) ⟨hx, hb, hml, hown, hts⟩ (C := R_B) (index := 38) (c_B_byteAt l D h cA n tb A hn hn2 (d) ((a * 512) + b) (by omega)) (cwV 1 hts (gd_V m_115 m_116 m_117 m_31 m_118) rfl rfl rfl hd_B_byteAt ⟨Nat.le_of_ble_eq_true rfl, Nat.le_of_ble_eq_true rfl⟩) cW_w cX_x hB hP hS (ci := 1) rfl (1) rfl rfl hl.1 rfl (Nat.le_of_ble_eq_true rfl) d_T_peek_20 ⟨Nat.zero_le _, Nat.zero_le _⟩ (fun r_ v_ H locs hw hP hS => ?_)
    obtain ⟨hw1, hw2⟩ := hw; have hw1 := hw1.symm; have hw2 := hw2.symm; subst hw1; subst hw2
    refine lv_goto (tgt := 27) hx hb d_T_peek_23 (by decide) ?_
    exact g_iret (v := (zx (d ((a * 512) + b)))) hx hb hr hlk cW_w cX_x hB hP hS (⟨by rw [pkR, cI_t c_6, cl_nI (by omega), cl_nI (by omega)], rfl⟩) d_T_peek_27
abbrev w_T_poke : List Cond := .code y_T_poke b_T_poke 4 (some .boolean) :: ALL
abbrev rm_T_poke : Room := { frames := 2, cells := 0, slots := 0, locals := 43 }
theorem hd_T_poke : y_T_poke.cls = R_T ∧ y_T_poke.cls ≠ "java/lang/invoke/MethodHandle" ∧ y_T_poke.cls ≠ "java/lang/invoke/VarHandle" ∧ (parseMethodDescriptor y_T_poke.desc).map (fun d => d.parameters.length) = some 3 := by decide +kernel
set_option maxHeartbeats 4000000 in
set_option maxRecDepth 100000 in
theorem c_T_poke (l : Launch) (D : va_G) (h : Nat → Nat) (cA : ClassId) (n tb : Nat) (A : Nat → Prop) (hn : 12 ≤ n) (hn2 : n ≤ 24) (d : Nat → BitVec 8) (x y z : Int32) : Met l y_T_poke w_T_poke rm_T_poke (va_Pc [.ref (h 0), .int (x), .int (y), .int (z)] (cB D h cA n tb A d)) (va_Qi (fun r v => (r, v) = poR n d x y z) (cB D h cA n tb A) A) 0 0 A := by
  refine g_ofW (cc := b_T_poke) (maxL := 4) (ret := (some .boolean)) (by decide) rfl (Nat.le_of_ble_eq_true rfl) ?_
  intro p e s m below meth c ls hx hb hml hr hlk hown hts hnm hB hl
  have hown : s.vm.findClass R_T = some m.cls := hown
  have hP := hB.1
  have hK := hB.2.1
  have hS : va_S A s.heap s.heap [] := va_S.rf
  have hl : lv_has ls 4 [(0, .ref (h 0)), (1, .int (x)), (2, .int (y)), (3, .int (z))] := hl
  refine lv_aload_n hx hb d_T_poke_0 rfl (lv_at hl 0 rfl) ?_
  refine lv_iload_n hx hb d_T_poke_1 rfl (lv_at hl 1 rfl) ?_
  refine lv_iload_n hx hb d_T_poke_2 rfl (lv_at hl 2 rfl) ?_
  refine g_callVi (As := [.int (x), .int (y)]) (rest := []) ⟨hx, hb, hml, hown, hts⟩ (C := R_T) (index := 34) (c_T_isPlace l D h cA n tb A hn hn2 (d) (x) (y)) (cwV 2 hts (gd_V m_107 m_109 m_0 m_30 m_110) rfl rfl rfl hd_T_isPlace ⟨Nat.le_of_ble_eq_true rfl, Nat.le_of_ble_eq_true rfl⟩) cW_w cX_x hB hP hS (ci := 0) rfl (0) rfl rfl hl.1 rfl (Nat.le_of_ble_eq_true rfl) d_T_poke_3 ⟨Nat.zero_le _, Nat.zero_le _⟩ (fun r_ v_ H locs hw hP hS => ?_)
  obtain ⟨hw1, hw2⟩ := hw; have hw1 := hw1.symm; have hw2 := hw2.symm; subst hw1; subst hw2
  refine lv_if_ne (tgt := 11) hx hb d_T_poke_6 (by decide) (fun c_6 => ?_) (fun c_6 => ?_)
  · have c_6 := bI_1 c_6
    obtain ⟨a, ha, rfl⟩ := inR_ex (by omega) c_6.1
    obtain ⟨b, hb2, rfl⟩ := inR_ex (by omega) c_6.2
    refine lv_aload_n hx hb d_T_poke_11 rfl (lv_at hl 0 rfl) ?_
    refine va_get (D := D) (ci := 0) (v := .ref (h 1)) (C := R_T) (T := F_T) (N := 4) hx hb hts (fun w h => .tail _ (fi_T w h)) hown hK hP 0 rfl rfl 1 (by decide) (hts _ (.tail _ m_87)) (fun _ h9 => h9) rfl d_T_poke_12 ?_
    refine lv_iload_n hx hb d_T_poke_15 rfl (lv_at hl 1 rfl) ?_
    refine lv_sipush (v := nI 512) hx hb d_T_poke_16 rfl ?_
    refine lv_imulN hx hb d_T_poke_19 ?_
    refine lv_iload_n hx hb d_T_poke_20 rfl (lv_at hl 2 rfl) ?_
    refine lv_iaddN hx hb d_T_poke_21 ?_
    refine lv_iconst (v := nI 1) hx hb d_T_poke_22 rfl ?_
    refine lv_iload_n hx hb d_T_poke_23 rfl (lv_at hl 3 rfl) ?_
    refine lv_i2l hx hb d_T_poke_24 rfl ?_
    refine g_callVv (As := [.int (nI ((a * 512) + b)), .int (nI (1)), .long ((z).toInt64)]) (rest := []) ⟨hx, hb, hml, hown, hts⟩ (C := R_B) (index := 42) (c_B_setNumber l D h cA n tb A hn hn2 (d) ((a * 512) + b) (1) ((z).toInt64) (by omega)) (cwV 3 hts (gd_V m_123 m_124 m_125 m_31 m_126) rfl rfl rfl hd_B_setNumber ⟨Nat.le_of_ble_eq_true rfl, Nat.le_of_ble_eq_true rfl⟩) cW_w cX_x hB hP hS (ci := 1) rfl (1) rfl rfl hl.1 rfl (Nat.le_of_ble_eq_true rfl) d_T_poke_25 ⟨Nat.zero_le _, Nat.zero_le _⟩ (fun v_ H locs hw hP hS => ?_)
    have hw := hw.symm; subst hw
    refine lv_iconst (v := nI 1) hx hb d_T_poke_28 rfl ?_
    exact g_zret (v := (nI (1))) hx hb hr (rfl) hlk cW_w cX_x hB hP hS (by rw [poR, cI_t c_6, cl_nI (by omega), cl_nI (by omega)] <;> rfl) d_T_poke_29
  · have c_6 := bI_0.mp c_6
    refine lv_iconst (v := nI 0) hx hb d_T_poke_9 rfl ?_
    exact g_zret (v := (nI (0))) hx hb hr (rfl) hlk cW_w cX_x hB hP hS ((cI_f c_6).symm) d_T_poke_10
abbrev w_T_writeGuard : List Cond := .code y_T_writeGuard b_T_writeGuard 1 none :: ALL
abbrev rm_T_writeGuard : Room := { frames := 1, cells := 0, slots := 0, locals := 25 }
theorem hd_T_writeGuard : y_T_writeGuard.cls = R_T ∧ y_T_writeGuard.cls ≠ "java/lang/invoke/MethodHandle" ∧ y_T_writeGuard.cls ≠ "java/lang/invoke/VarHandle" ∧ (parseMethodDescriptor y_T_writeGuard.desc).map (fun d => d.parameters.length) = some 0 := by decide +kernel
set_option maxHeartbeats 4000000 in
set_option maxRecDepth 100000 in
theorem c_T_writeGuard (l : Launch) (D : va_G) (h : Nat → Nat) (cA : ClassId) (n tb : Nat) (A : Nat → Prop) (hn : 12 ≤ n) (hn2 : n ≤ 24) (d : Nat → BitVec 8)  : Met l y_T_writeGuard w_T_writeGuard rm_T_writeGuard (va_Pc [.ref (h 0)] (cB D h cA n tb A d)) (va_Qv (fun v => v = wGd n d) (cB D h cA n tb A) A) 0 0 A := by
  refine g_ofW (cc := b_T_writeGuard) (maxL := 1) (ret := none) (by decide) rfl (Nat.le_of_ble_eq_true rfl) ?_
  intro p e s m below meth c ls hx hb hml hr hlk hown hts hnm hB hl
  have hown : s.vm.findClass R_T = some m.cls := hown
  have hP := hB.1
  have hK := hB.2.1
  have hS : va_S A s.heap s.heap [] := va_S.rf
  have hl : lv_has ls 1 [(0, .ref (h 0))] := hl
  refine lv_aload_n hx hb d_T_writeGuard_0 rfl (lv_at hl 0 rfl) ?_
  refine va_get (D := D) (ci := 0) (v := .ref (h 1)) (C := R_T) (T := F_T) (N := 4) hx hb hts (fun w h => .tail _ (fi_T w h)) hown hK hP 0 rfl rfl 1 (by decide) (hts _ (.tail _ m_87)) (fun _ h9 => h9) rfl d_T_writeGuard_1 ?_
  refine lv_iconst (v := nI 0) hx hb d_T_writeGuard_4 rfl ?_
  refine lv_sipush (v := nI 512) hx hb d_T_writeGuard_5 rfl ?_
  refine g_callVv (As := [.int (nI (0)), .int (nI (512))]) (rest := []) ⟨hx, hb, hml, hown, hts⟩ (C := R_B) (index := 173) (c_B_clear l D h cA n tb A hn hn2 (d) (0) (512) (by omega)) (cwV 2 hts (gd_V m_135 m_136 m_137 m_31 m_138) rfl rfl rfl hd_B_clear ⟨Nat.le_of_ble_eq_true rfl, Nat.le_of_ble_eq_true rfl⟩) cW_w cX_x hB hP hS (ci := 1) rfl (1) rfl rfl hl.1 rfl (Nat.le_of_ble_eq_true rfl) d_T_writeGuard_8 ⟨Nat.zero_le _, Nat.zero_le _⟩ (fun v_ H locs hw hP hS => ?_)
  have hw := hw.symm; subst hw
  refine lv_aload_n hx hb d_T_writeGuard_11 rfl (lv_at hl 0 rfl) ?_
  refine va_get (D := D) (ci := 0) (v := .ref (h 1)) (C := R_T) (T := F_T) (N := 4) hx hb hts (fun w h => .tail _ (fi_T w h)) hown hK hP 0 rfl rfl 1 (by decide) (hts _ (.tail _ m_87)) (fun _ h9 => h9) rfl d_T_writeGuard_12 ?_
  refine lv_sipush (v := nI 450) hx hb d_T_writeGuard_15 rfl ?_
  refine lv_iconst (v := nI 1) hx hb d_T_writeGuard_18 rfl ?_
  refine lv_ldc2 (v := 238) hx hb hown (hts _ (.tail _ m_139)) d_T_writeGuard_19 ?_
  refine g_callVv (As := [.int (nI (450)), .int (nI (1)), .long (238)]) (rest := []) ⟨hx, hb, hml, hown, hts⟩ (C := R_B) (index := 42) (c_B_setNumber l D h cA n tb A hn hn2 (clr d 0 512) (450) (1) (238) (by omega)) (cwV 3 hts (gd_V m_123 m_124 m_125 m_31 m_126) rfl rfl rfl hd_B_setNumber ⟨Nat.le_of_ble_eq_true rfl, Nat.le_of_ble_eq_true rfl⟩) cW_w cX_x hB hP hS (ci := 1) rfl (1) rfl rfl hl.1 rfl (Nat.le_of_ble_eq_true rfl) d_T_writeGuard_22 ⟨Nat.zero_le _, Nat.zero_le _⟩ (fun v_ H locs hw hP hS => ?_)
  have hw := hw.symm; subst hw
  refine lv_aload_n hx hb d_T_writeGuard_25 rfl (lv_at hl 0 rfl) ?_
  refine va_get (D := D) (ci := 0) (v := .ref (h 1)) (C := R_T) (T := F_T) (N := 4) hx hb hts (fun w h => .tail _ (fi_T w h)) hown hK hP 0 rfl rfl 1 (by decide) (hts _ (.tail _ m_87)) (fun _ h9 => h9) rfl d_T_writeGuard_26 ?_
  refine lv_sipush (v := nI 454) hx hb d_T_writeGuard_29 rfl ?_
  refine lv_iconst (v := nI 4) hx hb d_T_writeGuard_32 rfl ?_
  refine lv_lconst (v := 1) hx hb d_T_writeGuard_33 rfl ?_
  refine g_callVv (As := [.int (nI (454)), .int (nI (4)), .long (1)]) (rest := []) ⟨hx, hb, hml, hown, hts⟩ (C := R_B) (index := 42) (c_B_setNumber l D h cA n tb A hn hn2 (setN (clr d 0 512) 450 1 238) (454) (4) (1) (by omega)) (cwV 3 hts (gd_V m_123 m_124 m_125 m_31 m_126) rfl rfl rfl hd_B_setNumber ⟨Nat.le_of_ble_eq_true rfl, Nat.le_of_ble_eq_true rfl⟩) cW_w cX_x hB hP hS (ci := 1) rfl (1) rfl rfl hl.1 rfl (Nat.le_of_ble_eq_true rfl) d_T_writeGuard_34 ⟨Nat.zero_le _, Nat.zero_le _⟩ (fun v_ H locs hw hP hS => ?_)
  have hw := hw.symm; subst hw
  refine lv_aload_n hx hb d_T_writeGuard_37 rfl (lv_at hl 0 rfl) ?_
  refine va_get (D := D) (ci := 0) (v := .ref (h 1)) (C := R_T) (T := F_T) (N := 4) hx hb hts (fun w h => .tail _ (fi_T w h)) hown hK hP 0 rfl rfl 1 (by decide) (hts _ (.tail _ m_87)) (fun _ h9 => h9) rfl d_T_writeGuard_38 ?_
  refine lv_sipush (v := nI 458) hx hb d_T_writeGuard_41 rfl ?_
  refine lv_iconst (v := nI 4) hx hb d_T_writeGuard_44 rfl ?_
  refine lv_aload_n hx hb d_T_writeGuard_45 rfl (lv_at hl 0 rfl) ?_
  refine va_get (D := D) (ci := 0) (v := .int (nI (n))) (C := R_T) (T := F_T) (N := 4) hx hb hts (fun w h => .tail _ (fi_T w h)) hown hK hP 0 rfl rfl 0 (by decide) (hts _ (.tail _ m_86)) (fun _ h9 => h9) rfl d_T_writeGuard_46 ?_
  refine lv_iconst (v := nI 1) hx hb d_T_writeGuard_49 rfl ?_
  refine lv_isubN hx hb d_T_writeGuard_50 (by omega) ?_
  refine lv_i2l hx hb d_T_writeGuard_51 rfl ?_
  refine g_callVv (As := [.int (nI (458)), .int (nI (4)), .long ((nI (n - 1)).toInt64)]) (rest := []) ⟨hx, hb, hml, hown, hts⟩ (C := R_B) (index := 42) (c_B_setNumber l D h cA n tb A hn hn2 (setN (setN (clr d 0 512) 450 1 238) 454 4 1) (458) (4) ((nI (n - 1)).toInt64) (by omega)) (cwV 3 hts (gd_V m_123 m_124 m_125 m_31 m_126) rfl rfl rfl hd_B_setNumber ⟨Nat.le_of_ble_eq_true rfl, Nat.le_of_ble_eq_true rfl⟩) cW_w cX_x hB hP hS (ci := 1) rfl (1) rfl rfl hl.1 rfl (Nat.le_of_ble_eq_true rfl) d_T_writeGuard_52 ⟨Nat.zero_le _, Nat.zero_le _⟩ (fun v_ H locs hw hP hS => ?_)
  have hw := hw.symm; subst hw
  refine lv_aload_n hx hb d_T_writeGuard_55 rfl (lv_at hl 0 rfl) ?_
  refine va_get (D := D) (ci := 0) (v := .ref (h 1)) (C := R_T) (T := F_T) (N := 4) hx hb hts (fun w h => .tail _ (fi_T w h)) hown hK hP 0 rfl rfl 1 (by decide) (hts _ (.tail _ m_87)) (fun _ h9 => h9) rfl d_T_writeGuard_56 ?_
  refine lv_sipush (v := nI 510) hx hb d_T_writeGuard_59 rfl ?_
  refine lv_iconst (v := nI 1) hx hb d_T_writeGuard_62 rfl ?_
  refine lv_ldc2 (v := 85) hx hb hown (hts _ (.tail _ m_140)) d_T_writeGuard_63 ?_
  refine g_callVv (As := [.int (nI (510)), .int (nI (1)), .long (85)]) (rest := []) ⟨hx, hb, hml, hown, hts⟩ (C := R_B) (index := 42) (c_B_setNumber l D h cA n tb A hn hn2 (setN (setN (setN (clr d 0 512) 450 1 238) 454 4 1) 458 4 ((nI (n - 1)).toInt64)) (510) (1) (85) (by omega)) (cwV 3 hts (gd_V m_123 m_124 m_125 m_31 m_126) rfl rfl rfl hd_B_setNumber ⟨Nat.le_of_ble_eq_true rfl, Nat.le_of_ble_eq_true rfl⟩) cW_w cX_x hB hP hS (ci := 1) rfl (1) rfl rfl hl.1 rfl (Nat.le_of_ble_eq_true rfl) d_T_writeGuard_66 ⟨Nat.zero_le _, Nat.zero_le _⟩ (fun v_ H locs hw hP hS => ?_)
  have hw := hw.symm; subst hw
  refine lv_aload_n hx hb d_T_writeGuard_69 rfl (lv_at hl 0 rfl) ?_
  refine va_get (D := D) (ci := 0) (v := .ref (h 1)) (C := R_T) (T := F_T) (N := 4) hx hb hts (fun w h => .tail _ (fi_T w h)) hown hK hP 0 rfl rfl 1 (by decide) (hts _ (.tail _ m_87)) (fun _ h9 => h9) rfl d_T_writeGuard_70 ?_
  refine lv_sipush (v := nI 511) hx hb d_T_writeGuard_73 rfl ?_
  refine lv_iconst (v := nI 1) hx hb d_T_writeGuard_76 rfl ?_
  refine lv_ldc2 (v := 170) hx hb hown (hts _ (.tail _ m_141)) d_T_writeGuard_77 ?_
  refine g_callVv (As := [.int (nI (511)), .int (nI (1)), .long (170)]) (rest := []) ⟨hx, hb, hml, hown, hts⟩ (C := R_B) (index := 42) (c_B_setNumber l D h cA n tb A hn hn2 (setN (setN (setN (setN (clr d 0 512) 450 1 238) 454 4 1) 458 4 ((nI (n - 1)).toInt64)) 510 1 85) (511) (1) (170) (by omega)) (cwV 3 hts (gd_V m_123 m_124 m_125 m_31 m_126) rfl rfl rfl hd_B_setNumber ⟨Nat.le_of_ble_eq_true rfl, Nat.le_of_ble_eq_true rfl⟩) cW_w cX_x hB hP hS (ci := 1) rfl (1) rfl rfl hl.1 rfl (Nat.le_of_ble_eq_true rfl) d_T_writeGuard_80 ⟨Nat.zero_le _, Nat.zero_le _⟩ (fun v_ H locs hw hP hS => ?_)
  have hw := hw.symm; subst hw
  exact g_vret hx hb hr hlk cW_w cX_x hB hP hS (rfl) d_T_writeGuard_83
abbrev w_T_guard : List Cond := .code y_T_guard b_T_guard 1 (some .boolean) :: ALL
abbrev rm_T_guard : Room := { frames := 1, cells := 0, slots := 0, locals := 25 }
theorem hd_T_guard : y_T_guard.cls = R_T ∧ y_T_guard.cls ≠ "java/lang/invoke/MethodHandle" ∧ y_T_guard.cls ≠ "java/lang/invoke/VarHandle" ∧ (parseMethodDescriptor y_T_guard.desc).map (fun d => d.parameters.length) = some 0 := by decide +kernel
set_option maxHeartbeats 4000000 in
set_option maxRecDepth 100000 in
theorem c_T_guard (l : Launch) (D : va_G) (h : Nat → Nat) (cA : ClassId) (n tb : Nat) (A : Nat → Prop) (hn : 12 ≤ n) (hn2 : n ≤ 24) (d : Nat → BitVec 8)  : Met l y_T_guard w_T_guard rm_T_guard (va_Pc [.ref (h 0)] (cB D h cA n tb A d)) (va_Qi (fun r v => r = bI (gdR n d) ∧ v = d) (cB D h cA n tb A) A) 0 0 A := by
  refine g_ofW (cc := b_T_guard) (maxL := 1) (ret := (some .boolean)) (by decide) rfl (Nat.le_of_ble_eq_true rfl) ?_
  intro p e s m below meth c ls hx hb hml hr hlk hown hts hnm hB hl
  have hown : s.vm.findClass R_T = some m.cls := hown
  have hP := hB.1
  have hK := hB.2.1
  have hS : va_S A s.heap s.heap [] := va_S.rf
  have hl : lv_has ls 1 [(0, .ref (h 0))] := hl
  refine lv_aload_n hx hb d_T_guard_0 rfl (lv_at hl 0 rfl) ?_
  refine va_get (D := D) (ci := 0) (v := .ref (h 1)) (C := R_T) (T := F_T) (N := 4) hx hb hts (fun w h => .tail _ (fi_T w h)) hown hK hP 0 rfl rfl 1 (by decide) (hts _ (.tail _ m_87)) (fun _ h9 => h9) rfl d_T_guard_1 ?_
  refine lv_sipush (v := nI 510) hx hb d_T_guard_4 rfl ?_
  refine g_callVi (As := [.int (nI (510))]) (rest := []) ⟨hx, hb, hml, hown, hts⟩ (C := R_B) (index := 38) (c_B_byteAt l D h cA n tb A hn hn2 (d) (510) (by omega)) (cwV 1 hts (gd_V m_115 m_116 m_117 m_31 m_118) rfl rfl rfl hd_B_byteAt ⟨Nat.le_of_ble_eq_true rfl, Nat.le_of_ble_eq_true rfl⟩) cW_w cX_x hB hP hS (ci := 1) rfl (1) rfl rfl hl.1 rfl (Nat.le_of_ble_eq_true rfl) d_T_guard_7 ⟨Nat.zero_le _, Nat.zero_le _⟩ (fun r_ v_ H locs hw hP hS => ?_)
  obtain ⟨hw1, hw2⟩ := hw; have hw1 := hw1.symm; have hw2 := hw2.symm; subst hw1; subst hw2
  refine lv_bipush (v := nI 85) hx hb d_T_guard_10 rfl ?_
  refine lv_icmp_ne (tgt := 104) hx hb d_T_guard_12 (by decide) (fun c_12 => ?_) (fun c_12 => ?_)
  · refine lv_iconst (v := nI 0) hx hb d_T_guard_104 rfl ?_
    exact g_zret (v := (nI (0))) hx hb hr (rfl) hlk cW_w cX_x hB hP hS (⟨(bI_f (fun z => c_12 z.1)).symm, rfl⟩) d_T_guard_105
  · refine lv_aload_n hx hb d_T_guard_15 rfl (lv_at hl 0 rfl) ?_
    refine va_get (D := D) (ci := 0) (v := .ref (h 1)) (C := R_T) (T := F_T) (N := 4) hx hb hts (fun w h => .tail _ (fi_T w h)) hown hK hP 0 rfl rfl 1 (by decide) (hts _ (.tail _ m_87)) (fun _ h9 => h9) rfl d_T_guard_16 ?_
    refine lv_sipush (v := nI 511) hx hb d_T_guard_19 rfl ?_
    refine g_callVi (As := [.int (nI (511))]) (rest := []) ⟨hx, hb, hml, hown, hts⟩ (C := R_B) (index := 38) (c_B_byteAt l D h cA n tb A hn hn2 (d) (511) (by omega)) (cwV 1 hts (gd_V m_115 m_116 m_117 m_31 m_118) rfl rfl rfl hd_B_byteAt ⟨Nat.le_of_ble_eq_true rfl, Nat.le_of_ble_eq_true rfl⟩) cW_w cX_x hB hP hS (ci := 1) rfl (1) rfl rfl hl.1 rfl (Nat.le_of_ble_eq_true rfl) d_T_guard_22 ⟨Nat.zero_le _, Nat.zero_le _⟩ (fun r_ v_ H locs hw hP hS => ?_)
    obtain ⟨hw1, hw2⟩ := hw; have hw1 := hw1.symm; have hw2 := hw2.symm; subst hw1; subst hw2
    refine lv_sipush (v := nI 170) hx hb d_T_guard_25 rfl ?_
    refine lv_icmp_ne (tgt := 104) hx hb d_T_guard_28 (by decide) (fun c_28 => ?_) (fun c_28 => ?_)
    · refine lv_iconst (v := nI 0) hx hb d_T_guard_104 rfl ?_
      exact g_zret (v := (nI (0))) hx hb hr (rfl) hlk cW_w cX_x hB hP hS (⟨(bI_f (fun z => c_28 z.2.1)).symm, rfl⟩) d_T_guard_105
    · refine lv_aload_n hx hb d_T_guard_31 rfl (lv_at hl 0 rfl) ?_
      refine va_get (D := D) (ci := 0) (v := .ref (h 1)) (C := R_T) (T := F_T) (N := 4) hx hb hts (fun w h => .tail _ (fi_T w h)) hown hK hP 0 rfl rfl 1 (by decide) (hts _ (.tail _ m_87)) (fun _ h9 => h9) rfl d_T_guard_32 ?_
      refine lv_sipush (v := nI 450) hx hb d_T_guard_35 rfl ?_
      refine g_callVi (As := [.int (nI (450))]) (rest := []) ⟨hx, hb, hml, hown, hts⟩ (C := R_B) (index := 38) (c_B_byteAt l D h cA n tb A hn hn2 (d) (450) (by omega)) (cwV 1 hts (gd_V m_115 m_116 m_117 m_31 m_118) rfl rfl rfl hd_B_byteAt ⟨Nat.le_of_ble_eq_true rfl, Nat.le_of_ble_eq_true rfl⟩) cW_w cX_x hB hP hS (ci := 1) rfl (1) rfl rfl hl.1 rfl (Nat.le_of_ble_eq_true rfl) d_T_guard_38 ⟨Nat.zero_le _, Nat.zero_le _⟩ (fun r_ v_ H locs hw hP hS => ?_)
      obtain ⟨hw1, hw2⟩ := hw; have hw1 := hw1.symm; have hw2 := hw2.symm; subst hw1; subst hw2
      refine lv_sipush (v := nI 238) hx hb d_T_guard_41 rfl ?_
      refine lv_icmp_ne (tgt := 104) hx hb d_T_guard_44 (by decide) (fun c_44 => ?_) (fun c_44 => ?_)
      · refine lv_iconst (v := nI 0) hx hb d_T_guard_104 rfl ?_
        exact g_zret (v := (nI (0))) hx hb hr (rfl) hlk cW_w cX_x hB hP hS (⟨(bI_f (fun z => c_44 z.2.2.1)).symm, rfl⟩) d_T_guard_105
      · refine lv_aload_n hx hb d_T_guard_47 rfl (lv_at hl 0 rfl) ?_
        refine va_get (D := D) (ci := 0) (v := .ref (h 1)) (C := R_T) (T := F_T) (N := 4) hx hb hts (fun w h => .tail _ (fi_T w h)) hown hK hP 0 rfl rfl 1 (by decide) (hts _ (.tail _ m_87)) (fun _ h9 => h9) rfl d_T_guard_48 ?_
        refine lv_sipush (v := nI 454) hx hb d_T_guard_51 rfl ?_
        refine lv_iconst (v := nI 4) hx hb d_T_guard_54 rfl ?_
        refine g_callVl (As := [.int (nI (454)), .int (nI (4))]) (rest := []) ⟨hx, hb, hml, hown, hts⟩ (C := R_B) (index := 69) (c_B_number l D h cA n tb A hn hn2 (d) (454) (4) (by omega)) (cwV 2 hts (gd_V m_232 m_170 m_171 m_31 m_172) rfl rfl rfl hd_B_number ⟨Nat.le_of_ble_eq_true rfl, Nat.le_of_ble_eq_true rfl⟩) cW_w cX_x hB hP hS (ci := 1) rfl (1) rfl rfl hl.1 rfl (Nat.le_of_ble_eq_true rfl) d_T_guard_55 ⟨Nat.zero_le _, Nat.zero_le _⟩ (fun r_ v_ H locs hw hP hS => ?_)
        obtain ⟨hw1, hw2⟩ := hw; have hw1 := hw1.symm; have hw2 := hw2.symm; subst hw1; subst hw2
        refine lv_lconst (v := 1) hx hb d_T_guard_58 rfl ?_
        refine W.lcmp hx hb d_T_guard_59 ?_
        refine lv_if_ne (tgt := 104) hx hb d_T_guard_60 (by decide) (fun c_60 => ?_) (fun c_60 => ?_)
        · have c_60 := fun z => c_60 ((lg_cmp_eq _ _).mpr z)
          refine lv_iconst (v := nI 0) hx hb d_T_guard_104 rfl ?_
          exact g_zret (v := (nI (0))) hx hb hr (rfl) hlk cW_w cX_x hB hP hS (⟨(bI_f (fun z => c_60 z.2.2.2.1)).symm, rfl⟩) d_T_guard_105
        · have c_60 := (lg_cmp_eq _ _).mp c_60
          refine lv_aload_n hx hb d_T_guard_63 rfl (lv_at hl 0 rfl) ?_
          refine va_get (D := D) (ci := 0) (v := .ref (h 1)) (C := R_T) (T := F_T) (N := 4) hx hb hts (fun w h => .tail _ (fi_T w h)) hown hK hP 0 rfl rfl 1 (by decide) (hts _ (.tail _ m_87)) (fun _ h9 => h9) rfl d_T_guard_64 ?_
          refine lv_sipush (v := nI 458) hx hb d_T_guard_67 rfl ?_
          refine lv_iconst (v := nI 4) hx hb d_T_guard_70 rfl ?_
          refine g_callVl (As := [.int (nI (458)), .int (nI (4))]) (rest := []) ⟨hx, hb, hml, hown, hts⟩ (C := R_B) (index := 69) (c_B_number l D h cA n tb A hn hn2 (d) (458) (4) (by omega)) (cwV 2 hts (gd_V m_232 m_170 m_171 m_31 m_172) rfl rfl rfl hd_B_number ⟨Nat.le_of_ble_eq_true rfl, Nat.le_of_ble_eq_true rfl⟩) cW_w cX_x hB hP hS (ci := 1) rfl (1) rfl rfl hl.1 rfl (Nat.le_of_ble_eq_true rfl) d_T_guard_71 ⟨Nat.zero_le _, Nat.zero_le _⟩ (fun r_ v_ H locs hw hP hS => ?_)
          obtain ⟨hw1, hw2⟩ := hw; have hw1 := hw1.symm; have hw2 := hw2.symm; subst hw1; subst hw2
          refine lv_aload_n hx hb d_T_guard_74 rfl (lv_at hl 0 rfl) ?_
          refine va_get (D := D) (ci := 0) (v := .int (nI (n))) (C := R_T) (T := F_T) (N := 4) hx hb hts (fun w h => .tail _ (fi_T w h)) hown hK hP 0 rfl rfl 0 (by decide) (hts _ (.tail _ m_86)) (fun _ h9 => h9) rfl d_T_guard_75 ?_
          refine lv_iconst (v := nI 1) hx hb d_T_guard_78 rfl ?_
          refine lv_isubN hx hb d_T_guard_79 (by omega) ?_
          refine lv_i2l hx hb d_T_guard_80 rfl ?_
          refine W.lcmp hx hb d_T_guard_81 ?_
          refine lv_if_ne (tgt := 104) hx hb d_T_guard_82 (by decide) (fun c_82 => ?_) (fun c_82 => ?_)
          · have c_82 := fun z => c_82 ((lg_cmp_eq _ _).mpr z)
            refine lv_iconst (v := nI 0) hx hb d_T_guard_104 rfl ?_
            exact g_zret (v := (nI (0))) hx hb hr (rfl) hlk cW_w cX_x hB hP hS (⟨(bI_f (fun z => c_82 z.2.2.2.2.1)).symm, rfl⟩) d_T_guard_105
          · have c_82 := (lg_cmp_eq _ _).mp c_82
            refine lv_aload_n hx hb d_T_guard_85 rfl (lv_at hl 0 rfl) ?_
            refine va_get (D := D) (ci := 0) (v := .ref (h 1)) (C := R_T) (T := F_T) (N := 4) hx hb hts (fun w h => .tail _ (fi_T w h)) hown hK hP 0 rfl rfl 1 (by decide) (hts _ (.tail _ m_87)) (fun _ h9 => h9) rfl d_T_guard_86 ?_
            refine lv_sipush (v := nI 462) hx hb d_T_guard_89 rfl ?_
            refine lv_bipush (v := nI 48) hx hb d_T_guard_92 rfl ?_
            refine g_callVi (As := [.int (nI (462)), .int (nI (48))]) (rest := []) ⟨hx, hb, hml, hown, hts⟩ (C := R_B) (index := 73) (c_B_isZero l D h cA n tb A hn hn2 (d) (462) (48) (by omega)) (cwV 2 hts (gd_V m_233 m_234 m_235 m_31 m_236) rfl rfl rfl hd_B_isZero ⟨Nat.le_of_ble_eq_true rfl, Nat.le_of_ble_eq_true rfl⟩) cW_w cX_x hB hP hS (ci := 1) rfl (1) rfl rfl hl.1 rfl (Nat.le_of_ble_eq_true rfl) d_T_guard_94 ⟨Nat.zero_le _, Nat.zero_le _⟩ (fun r_ v_ H locs hw hP hS => ?_)
            obtain ⟨hw1, hw2⟩ := hw; have hw1 := hw1.symm; have hw2 := hw2.symm; subst hw1; subst hw2
            refine lv_if_eq (tgt := 104) hx hb d_T_guard_97 (by decide) (fun c_97 => ?_) (fun c_97 => ?_)
            · have c_97 := bI_0.mp c_97
              refine lv_iconst (v := nI 0) hx hb d_T_guard_104 rfl ?_
              exact g_zret (v := (nI (0))) hx hb hr (rfl) hlk cW_w cX_x hB hP hS (⟨(bI_f (fun z => c_97 z.2.2.2.2.2)).symm, rfl⟩) d_T_guard_105
            · have c_97 := bI_1 c_97
              refine lv_iconst (v := nI 1) hx hb d_T_guard_100 rfl ?_
              refine lv_goto (tgt := 105) hx hb d_T_guard_101 (by decide) ?_
              exact g_zret (v := (nI (1))) hx hb hr (rfl) hlk cW_w cX_x hB hP hS (⟨(bI_t ⟨c_12, c_28, c_44, c_60, c_82, c_97⟩).symm, rfl⟩) d_T_guard_105
abbrev w_T_copyNumber : List Cond := .code y_T_copyNumber b_T_copyNumber 2 (some (.object "TwinTables$Copy")) :: ALL
abbrev rm_T_copyNumber : Room := { frames := 0, cells := 0, slots := 0, locals := 0 }
theorem hd_T_copyNumber : y_T_copyNumber.cls = R_T ∧ y_T_copyNumber.cls ≠ "java/lang/invoke/MethodHandle" ∧ y_T_copyNumber.cls ≠ "java/lang/invoke/VarHandle" ∧ (parseMethodDescriptor y_T_copyNumber.desc).map (fun d => d.parameters.length) = some 1 := by decide +kernel
set_option maxHeartbeats 4000000 in
set_option maxRecDepth 100000 in
theorem c_T_copyNumber (l : Launch) (D : va_G) (h : Nat → Nat) (cA : ClassId) (n tb : Nat) (A : Nat → Prop) (hn : 12 ≤ n) (hn2 : n ≤ 24) (d : Nat → BitVec 8) (x : Int32) : Met l y_T_copyNumber w_T_copyNumber rm_T_copyNumber (va_Pc [.ref (h 0), .int (x)] (cB D h cA n tb A d)) (va_Qq (fun r v => ((∃ j, j < 2 ∧ x = nI j ∧ r = some (h (2 + j))) ∨ (¬ inR x 2 ∧ r = none)) ∧ v = d) (cB D h cA n tb A) A) 0 0 A := by
  refine g_ofW (cc := b_T_copyNumber) (maxL := 2) (ret := (some (.object "TwinTables$Copy"))) (by decide) rfl (Nat.le_of_ble_eq_true rfl) ?_
  intro p e s m below meth c ls hx hb hml hr hlk hown hts hnm hB hl
  have hown : s.vm.findClass R_T = some m.cls := hown
  have hP := hB.1
  have hK := hB.2.1
  have hS : va_S A s.heap s.heap [] := va_S.rf
  have hl : lv_has ls 2 [(0, .ref (h 0)), (1, .int (x))] := hl
  refine lv_iload_n hx hb d_T_copyNumber_0 rfl (lv_at hl 1 rfl) ?_
  refine lv_if_ne (tgt := 9) hx hb d_T_copyNumber_1 (by decide) (fun c_1 => ?_) (fun c_1 => ?_)
  · refine lv_iload_n hx hb d_T_copyNumber_9 rfl (lv_at hl 1 rfl) ?_
    refine lv_iconst (v := nI 1) hx hb d_T_copyNumber_10 rfl ?_
    refine lv_icmp_ne (tgt := 21) hx hb d_T_copyNumber_11 (by decide) (fun c_11 => ?_) (fun c_11 => ?_)
    · refine lv_null hx hb d_T_copyNumber_21 ?_
      exact g_qret (v := none) hx hb hr hlk cW_w cX_x hB hP hS (⟨Or.inr ⟨fun z => nR2 z c_1 c_11, rfl⟩, rfl⟩) d_T_copyNumber_22
    · refine lv_aload_n hx hb d_T_copyNumber_14 rfl (lv_at hl 0 rfl) ?_
      refine va_get (D := D) (ci := 0) (v := .ref (h (2 + 1))) (C := R_T) (T := F_T) (N := 4) hx hb hts (fun w h => .tail _ (fi_T w h)) hown hK hP 0 rfl rfl 3 (by decide) (hts _ (.tail _ m_89)) (fun _ h9 => h9) rfl d_T_copyNumber_15 ?_
      refine lv_goto (tgt := 22) hx hb d_T_copyNumber_18 (by decide) ?_
      exact g_qret (v := some (h (2 + 1))) hx hb hr hlk cW_w cX_x hB hP hS (⟨Or.inl ⟨1, by decide, c_11, rfl⟩, rfl⟩) d_T_copyNumber_22
  · refine lv_aload_n hx hb d_T_copyNumber_4 rfl (lv_at hl 0 rfl) ?_
    refine va_get (D := D) (ci := 0) (v := .ref (h (2 + 0))) (C := R_T) (T := F_T) (N := 4) hx hb hts (fun w h => .tail _ (fi_T w h)) hown hK hP 0 rfl rfl 2 (by decide) (hts _ (.tail _ m_88)) (fun _ h9 => h9) rfl d_T_copyNumber_5 ?_
    exact g_qret (v := some (h (2 + 0))) hx hb hr hlk cW_w cX_x hB hP hS (⟨Or.inl ⟨0, by decide, c_1, rfl⟩, rfl⟩) d_T_copyNumber_8
abbrev w_T_table : List Cond := .code y_T_table b_T_table 1 (some (.object "TwinTables$Copy")) :: ALL
abbrev rm_T_table : Room := { frames := 5, cells := 0, slots := 0, locals := 118 }
theorem hd_T_table : y_T_table.cls = R_T ∧ y_T_table.cls ≠ "java/lang/invoke/MethodHandle" ∧ y_T_table.cls ≠ "java/lang/invoke/VarHandle" ∧ (parseMethodDescriptor y_T_table.desc).map (fun d => d.parameters.length) = some 0 := by decide +kernel
set_option maxHeartbeats 4000000 in
set_option maxRecDepth 100000 in
theorem c_T_table (l : Launch) (D : va_G) (h : Nat → Nat) (cA : ClassId) (n tb : Nat) (A : Nat → Prop) (hn : 12 ≤ n) (hn2 : n ≤ 24) (d : Nat → BitVec 8)  : Met l y_T_table w_T_table rm_T_table (va_Pc [.ref (h 0)] (cB D h cA n tb A d)) (va_Qq (fun r v => ((∃ j, j < 2 ∧ src n d = some j ∧ r = some (h (2 + j))) ∨ (src n d = none ∧ r = none)) ∧ v = d) (cB D h cA n tb A) A) 0 0 A := by
  refine g_ofW (cc := b_T_table) (maxL := 1) (ret := (some (.object "TwinTables$Copy"))) (by decide) rfl (Nat.le_of_ble_eq_true rfl) ?_
  intro p e s m below meth c ls hx hb hml hr hlk hown hts hnm hB hl
  have hown : s.vm.findClass R_T = some m.cls := hown
  have hP := hB.1
  have hK := hB.2.1
  have hS : va_S A s.heap s.heap [] := va_S.rf
  have hl : lv_has ls 1 [(0, .ref (h 0))] := hl
  have hHd0 := cHd_le (j := 0) hn (by decide)
  have hHd1 := cHd_le (j := 1) hn (by decide)
  have hAr0 := cAr_le (j := 0) hn (by decide)
  have hAr1 := cAr_le (j := 1) hn (by decide)
  refine lv_aload_n hx hb d_T_table_0 rfl (lv_at hl 0 rfl) ?_
  refine va_get (D := D) (ci := 0) (v := .ref (h (2 + 0))) (C := R_T) (T := F_T) (N := 4) hx hb hts (fun w h => .tail _ (fi_T w h)) hown hK hP 0 rfl rfl 2 (by decide) (hts _ (.tail _ m_88)) (fun _ h9 => h9) rfl d_T_table_1 ?_
  refine g_callVi (As := []) (rest := []) ⟨hx, hb, hml, hown, hts⟩ (C := R_C) (index := 76) (c_C_firstFault l D h cA n tb A hn hn2 (d) (0) (by decide)) (cwV 0 hts (gd_V m_241 m_242 m_243 m_32 m_244) rfl rfl rfl hd_C_firstFault ⟨Nat.le_of_ble_eq_true rfl, Nat.le_of_ble_eq_true rfl⟩) cW_w cX_x hB hP hS (ci := 2) rfl ((2 + 0)) (cW_C (by decide)) rfl hl.1 rfl (Nat.le_of_ble_eq_true rfl) d_T_table_4 ⟨Nat.zero_le _, Nat.zero_le _⟩ (fun r_ v_ H locs hw hP hS => ?_)
  obtain ⟨hw1, hw2⟩ := hw; have hw1 := hw1.symm; have hw2 := hw2.symm; subst hw1; subst hw2
  refine lv_if_ne (tgt := 15) hx hb d_T_table_7 (by decide) (fun c_7 => ?_) (fun c_7 => ?_)
  · refine lv_aload_n hx hb d_T_table_15 rfl (lv_at hl 0 rfl) ?_
    refine va_get (D := D) (ci := 0) (v := .ref (h (2 + 1))) (C := R_T) (T := F_T) (N := 4) hx hb hts (fun w h => .tail _ (fi_T w h)) hown hK hP 0 rfl rfl 3 (by decide) (hts _ (.tail _ m_89)) (fun _ h9 => h9) rfl d_T_table_16 ?_
    refine g_callVi (As := []) (rest := []) ⟨hx, hb, hml, hown, hts⟩ (C := R_C) (index := 76) (c_C_firstFault l D h cA n tb A hn hn2 (d) (1) (by decide)) (cwV 0 hts (gd_V m_241 m_242 m_243 m_32 m_244) rfl rfl rfl hd_C_firstFault ⟨Nat.le_of_ble_eq_true rfl, Nat.le_of_ble_eq_true rfl⟩) cW_w cX_x hB hP hS (ci := 2) rfl ((2 + 1)) (cW_C (by decide)) rfl hl.1 rfl (Nat.le_of_ble_eq_true rfl) d_T_table_19 ⟨Nat.zero_le _, Nat.zero_le _⟩ (fun r_ v_ H locs hw hP hS => ?_)
    obtain ⟨hw1, hw2⟩ := hw; have hw1 := hw1.symm; have hw2 := hw2.symm; subst hw1; subst hw2
    refine lv_if_ne (tgt := 32) hx hb d_T_table_22 (by decide) (fun c_22 => ?_) (fun c_22 => ?_)
    · refine lv_null hx hb d_T_table_32 ?_
      exact g_qret (v := none) hx hb hr hlk cW_w cX_x hB hP hS (⟨Or.inr ⟨(cI_f c_7).trans (cI_f c_22), rfl⟩, rfl⟩) d_T_table_33
    · refine lv_aload_n hx hb d_T_table_25 rfl (lv_at hl 0 rfl) ?_
      refine va_get (D := D) (ci := 0) (v := .ref (h (2 + 1))) (C := R_T) (T := F_T) (N := 4) hx hb hts (fun w h => .tail _ (fi_T w h)) hown hK hP 0 rfl rfl 3 (by decide) (hts _ (.tail _ m_89)) (fun _ h9 => h9) rfl d_T_table_26 ?_
      refine lv_goto (tgt := 33) hx hb d_T_table_29 (by decide) ?_
      exact g_qret (v := some (h (2 + 1))) hx hb hr hlk cW_w cX_x hB hP hS (⟨Or.inl ⟨1, by decide, (cI_f c_7).trans (cI_t c_22), rfl⟩, rfl⟩) d_T_table_33
  · refine lv_aload_n hx hb d_T_table_10 rfl (lv_at hl 0 rfl) ?_
    refine va_get (D := D) (ci := 0) (v := .ref (h (2 + 0))) (C := R_T) (T := F_T) (N := 4) hx hb hts (fun w h => .tail _ (fi_T w h)) hown hK hP 0 rfl rfl 2 (by decide) (hts _ (.tail _ m_88)) (fun _ h9 => h9) rfl d_T_table_11 ?_
    exact g_qret (v := some (h (2 + 0))) hx hb hr hlk cW_w cX_x hB hP hS (⟨Or.inl ⟨0, by decide, cI_t c_7, rfl⟩, rfl⟩) d_T_table_14
abbrev w_T_writeTable : List Cond := .code y_T_writeTable b_T_writeTable 2 none :: ALL
abbrev rm_T_writeTable : Room := { frames := 6, cells := 0, slots := 0, locals := 138 }
theorem hd_T_writeTable : y_T_writeTable.cls = R_T ∧ y_T_writeTable.cls ≠ "java/lang/invoke/MethodHandle" ∧ y_T_writeTable.cls ≠ "java/lang/invoke/VarHandle" ∧ (parseMethodDescriptor y_T_writeTable.desc).map (fun d => d.parameters.length) = some 1 := by decide +kernel
set_option maxHeartbeats 4000000 in
set_option maxRecDepth 100000 in
theorem c_T_writeTable (l : Launch) (D : va_G) (h : Nat → Nat) (cA : ClassId) (n tb : Nat) (A : Nat → Prop) (hn : 12 ≤ n) (hn2 : n ≤ 24) (d : Nat → BitVec 8) (j : Nat) (hj : j < 2) : Met l y_T_writeTable w_T_writeTable rm_T_writeTable (va_Pc [.ref (h 0), .ref (h (2 + j))] (cB D h cA n tb A d)) (va_Qv (fun v => v = wTb n j d) (cB D h cA n tb A) A) 0 0 A := by
  refine g_ofW (cc := b_T_writeTable) (maxL := 2) (ret := none) (by decide) rfl (Nat.le_of_ble_eq_true rfl) ?_
  intro p e s m below meth c ls hx hb hml hr hlk hown hts hnm hB hl
  have hown : s.vm.findClass R_T = some m.cls := hown
  have hP := hB.1
  have hK := hB.2.1
  have hS : va_S A s.heap s.heap [] := va_S.rf
  have hl : lv_has ls 2 [(0, .ref (h 0)), (1, .ref (h (2 + j)))] := hl
  refine lv_aload_n hx hb d_T_writeTable_0 rfl (lv_at hl 0 rfl) ?_
  refine va_get (D := D) (ci := 0) (v := .ref (h (2 + 0))) (C := R_T) (T := F_T) (N := 4) hx hb hts (fun w h => .tail _ (fi_T w h)) hown hK hP 0 rfl rfl 2 (by decide) (hts _ (.tail _ m_88)) (fun _ h9 => h9) rfl d_T_writeTable_1 ?_
  refine lv_aload_n hx hb d_T_writeTable_4 rfl (lv_at hl 1 rfl) ?_
  refine g_callVv (As := [.ref (h (2 + j))]) (rest := []) ⟨hx, hb, hml, hown, hts⟩ (C := R_C) (index := 170) (c_C_write l D h cA n tb A hn hn2 (d) (0) (by decide) (j) hj) (cwV 1 hts (gd_V m_161 m_162 m_163 m_32 m_164) rfl rfl rfl hd_C_write ⟨Nat.le_of_ble_eq_true rfl, Nat.le_of_ble_eq_true rfl⟩) cW_w cX_x hB hP hS (ci := 2) rfl ((2 + 0)) (cW_C (by decide)) rfl hl.1 rfl (Nat.le_of_ble_eq_true rfl) d_T_writeTable_5 ⟨Nat.zero_le _, Nat.zero_le _⟩ (fun v_ H locs hw hP hS => ?_)
  have hw := hw.symm; subst hw
  refine lv_aload_n hx hb d_T_writeTable_8 rfl (lv_at hl 0 rfl) ?_
  refine va_get (D := D) (ci := 0) (v := .ref (h (2 + 1))) (C := R_T) (T := F_T) (N := 4) hx hb hts (fun w h => .tail _ (fi_T w h)) hown hK hP 0 rfl rfl 3 (by decide) (hts _ (.tail _ m_89)) (fun _ h9 => h9) rfl d_T_writeTable_9 ?_
  refine lv_aload_n hx hb d_T_writeTable_12 rfl (lv_at hl 1 rfl) ?_
  refine g_callVv (As := [.ref (h (2 + j))]) (rest := []) ⟨hx, hb, hml, hown, hts⟩ (C := R_C) (index := 170) (c_C_write l D h cA n tb A hn hn2 (wrt n 0 j d) (1) (by decide) (j) hj) (cwV 1 hts (gd_V m_161 m_162 m_163 m_32 m_164) rfl rfl rfl hd_C_write ⟨Nat.le_of_ble_eq_true rfl, Nat.le_of_ble_eq_true rfl⟩) cW_w cX_x hB hP hS (ci := 2) rfl ((2 + 1)) (cW_C (by decide)) rfl hl.1 rfl (Nat.le_of_ble_eq_true rfl) d_T_writeTable_13 ⟨Nat.zero_le _, Nat.zero_le _⟩ (fun v_ H locs hw hP hS => ?_)
  have hw := hw.symm; subst hw
  exact g_vret hx hb hr hlk cW_w cX_x hB hP hS (rfl) d_T_writeTable_16
abbrev w_T_isPartition : List Cond := .code y_T_isPartition b_T_isPartition 2 (some .boolean) :: ALL
abbrev rm_T_isPartition : Room := { frames := 2, cells := 0, slots := 0, locals := 44 }
theorem hd_T_isPartition : y_T_isPartition.cls = R_T ∧ y_T_isPartition.cls ≠ "java/lang/invoke/MethodHandle" ∧ y_T_isPartition.cls ≠ "java/lang/invoke/VarHandle" ∧ (parseMethodDescriptor y_T_isPartition.desc).map (fun d => d.parameters.length) = some 2 := by decide +kernel
set_option maxHeartbeats 4000000 in
set_option maxRecDepth 100000 in
theorem c_T_isPartition (l : Launch) (D : va_G) (h : Nat → Nat) (cA : ClassId) (n tb : Nat) (A : Nat → Prop) (hn : 12 ≤ n) (hn2 : n ≤ 24) (d : Nat → BitVec 8) (j : Nat) (hj : j < 2) (x : Int32) : Met l y_T_isPartition w_T_isPartition rm_T_isPartition (va_Pc [.ref (h (2 + j)), .int (x)] (cB D h cA n tb A d)) (va_Qi (fun r v => r = bI (ptQ n d j x) ∧ v = d) (cB D h cA n tb A) A) 0 0 A := by
  refine g_ofW (cc := b_T_isPartition) (maxL := 2) (ret := (some .boolean)) (by decide) rfl (Nat.le_of_ble_eq_true rfl) ?_
  intro p e s m below meth c ls hx hb hml hr hlk hown hts hnm hB hl
  have hown : s.vm.findClass R_T = some m.cls := hown
  have hP := hB.1
  have hK := hB.2.1
  have hS : va_S A s.heap s.heap [] := va_S.rf
  have hl : lv_has ls 2 [(0, .ref (h (2 + j))), (1, .int (x))] := hl
  refine lv_aload_n hx hb d_T_isPartition_0 rfl (lv_at hl 0 rfl) ?_
  refine lv_ifnull hx hb d_T_isPartition_1 ?_
  refine lv_iload_n hx hb d_T_isPartition_4 rfl (lv_at hl 1 rfl) ?_
  refine g_callSi (As := [.int (x)]) (rest := []) ⟨hx, hb, hml, hown, hts⟩ (index := 143) (c_T_isEntry l D h cA n tb A hn hn2 (d) (x)) (cwS 1 hts (gd_S m_333 m_334 m_30 m_335) rfl rfl rfl hd_T_isEntry ⟨Nat.le_of_ble_eq_true rfl, Nat.le_of_ble_eq_true rfl⟩) cW_w cX_x hB hP hS rfl hl.1 rfl (Nat.le_of_ble_eq_true rfl) d_T_isPartition_5 ⟨Nat.zero_le _, Nat.zero_le _⟩ (fun r_ v_ H locs hw hP hS => ?_)
  obtain ⟨hw1, hw2⟩ := hw; have hw1 := hw1.symm; have hw2 := hw2.symm; subst hw1; subst hw2
  refine lv_if_eq (tgt := 23) hx hb d_T_isPartition_8 (by decide) (fun c_8 => ?_) (fun c_8 => ?_)
  · have c_8 := bI_0.mp c_8
    refine lv_iconst (v := nI 0) hx hb d_T_isPartition_23 rfl ?_
    exact g_zret (v := (nI (0))) hx hb hr (rfl) hlk cW_w cX_x hB hP hS (⟨(bI_f (fun z => c_8 z.1)).symm, rfl⟩) d_T_isPartition_24
  · have c_8 := bI_1 c_8
    obtain ⟨a, ha, rfl⟩ := inR_ex (by omega) c_8
    refine lv_aload_n hx hb d_T_isPartition_11 rfl (lv_at hl 0 rfl) ?_
    refine lv_iload_n hx hb d_T_isPartition_12 rfl (lv_at hl 1 rfl) ?_
    refine g_callVi (As := [.int (nI (a))]) (rest := []) ⟨hx, hb, hml, hown, hts⟩ (C := R_C) (index := 163) (c_C_isFree l D h cA n tb A hn hn2 (d) (j) hj (a) (by omega)) (cwV 1 hts (gd_V m_336 m_266 m_267 m_32 m_268) rfl rfl rfl hd_C_isFree ⟨Nat.le_of_ble_eq_true rfl, Nat.le_of_ble_eq_true rfl⟩) cW_w cX_x hB hP hS (ci := 2) rfl ((2 + j)) (cW_C hj) rfl hl.1 rfl (Nat.le_of_ble_eq_true rfl) d_T_isPartition_13 ⟨Nat.zero_le _, Nat.zero_le _⟩ (fun r_ v_ H locs hw hP hS => ?_)
    obtain ⟨hw1, hw2⟩ := hw; have hw1 := hw1.symm; have hw2 := hw2.symm; subst hw1; subst hw2
    refine lv_if_ne (tgt := 23) hx hb d_T_isPartition_16 (by decide) (fun c_16 => ?_) (fun c_16 => ?_)
    · have c_16 := bI_1 c_16
      refine lv_iconst (v := nI 0) hx hb d_T_isPartition_23 rfl ?_
      exact g_zret (v := (nI (0))) hx hb hr (rfl) hlk cW_w cX_x hB hP hS (⟨(bI_f (fun z => z.2 (by rw [cl_nI (by omega)]; exact c_16))).symm, rfl⟩) d_T_isPartition_24
    · have c_16 := bI_0.mp c_16
      refine lv_iconst (v := nI 1) hx hb d_T_isPartition_19 rfl ?_
      refine lv_goto (tgt := 24) hx hb d_T_isPartition_20 (by decide) ?_
      exact g_zret (v := (nI (1))) hx hb hr (rfl) hlk cW_w cX_x hB hP hS (⟨(bI_t ⟨c_8, by rw [cl_nI (by omega)]; exact c_16⟩).symm, rfl⟩) d_T_isPartition_24
set_option maxHeartbeats 4000000 in
set_option maxRecDepth 100000 in
theorem c_T_isPartitionN (l : Launch) (D : va_G) (h : Nat → Nat) (cA : ClassId) (n tb : Nat) (A : Nat → Prop) (hn : 12 ≤ n) (hn2 : n ≤ 24) (d : Nat → BitVec 8) (x : Int32) : Met l y_T_isPartition w_T_isPartition rm_T_isPartition (va_Pc [.null, .int (x)] (cB D h cA n tb A d)) (va_Qi (fun r v => r = nI 0 ∧ v = d) (cB D h cA n tb A) A) 0 0 A := by
  refine g_ofW (cc := b_T_isPartition) (maxL := 2) (ret := (some .boolean)) (by decide) rfl (Nat.le_of_ble_eq_true rfl) ?_
  intro p e s m below meth c ls hx hb hml hr hlk hown hts hnm hB hl
  have hown : s.vm.findClass R_T = some m.cls := hown
  have hP := hB.1
  have hK := hB.2.1
  have hS : va_S A s.heap s.heap [] := va_S.rf
  have hl : lv_has ls 2 [(0, .null), (1, .int (x))] := hl
  refine lv_aload_nN hx hb d_T_isPartition_0 rfl (lv_at hl 0 rfl) ?_
  refine lv_ifnullN (tgt := 23) hx hb d_T_isPartition_1 (by decide) ?_
  refine lv_iconst (v := nI 0) hx hb d_T_isPartition_23 rfl ?_
  exact g_zret (v := (nI (0))) hx hb hr (rfl) hlk cW_w cX_x hB hP hS (⟨rfl, rfl⟩) d_T_isPartition_24
abbrev w_T_format : List Cond := .code y_T_format b_T_format 3 none :: ALL
abbrev rm_T_format : Room := { frames := 7, cells := 0, slots := 0, locals := 159 }
theorem hd_T_format : y_T_format.cls = R_T ∧ y_T_format.cls ≠ "java/lang/invoke/MethodHandle" ∧ y_T_format.cls ≠ "java/lang/invoke/VarHandle" ∧ (parseMethodDescriptor y_T_format.desc).map (fun d => d.parameters.length) = some 1 := by decide +kernel
set_option maxHeartbeats 4000000 in
set_option maxRecDepth 100000 in
theorem c_T_format (l : Launch) (D : va_G) (h : Nat → Nat) (cA : ClassId) (n tb : Nat) (A : Nat → Prop) (hn : 12 ≤ n) (hn2 : n ≤ 24) (d : Nat → BitVec 8) (x : Int64) : Met l y_T_format w_T_format rm_T_format (va_Pc [.ref (h 0), .long (x)] (cB D h cA n tb A d)) (va_Qv (fun v => v = foR n d x) (cB D h cA n tb A) A) 0 0 A := by
  refine g_ofW (cc := b_T_format) (maxL := 3) (ret := none) (by decide) rfl (Nat.le_of_ble_eq_true rfl) ?_
  intro p e s m below meth c ls hx hb hml hr hlk hown hts hnm hB hl
  have hown : s.vm.findClass R_T = some m.cls := hown
  have hP := hB.1
  have hK := hB.2.1
  have hS : va_S A s.heap s.heap [] := va_S.rf
  have hl : lv_has ls 3 [(0, .ref (h 0)), (1, .long (x))] := hl
  have hHd0 := cHd_le (j := 0) hn (by decide)
  have hHd1 := cHd_le (j := 1) hn (by decide)
  have hAr0 := cAr_le (j := 0) hn (by decide)
  have hAr1 := cAr_le (j := 1) hn (by decide)
  refine lv_aload_n hx hb d_T_format_0 rfl (lv_at hl 0 rfl) ?_
  refine g_callVv (As := []) (rest := []) ⟨hx, hb, hml, hown, hts⟩ (C := R_T) (index := 46) (c_T_writeGuard l D h cA n tb A hn hn2 (d) ) (cwV 0 hts (gd_V m_131 m_133 m_2 m_30 m_134) rfl rfl rfl hd_T_writeGuard ⟨Nat.le_of_ble_eq_true rfl, Nat.le_of_ble_eq_true rfl⟩) cW_w cX_x hB hP hS (ci := 0) rfl (0) rfl rfl hl.1 rfl (Nat.le_of_ble_eq_true rfl) d_T_format_1 ⟨Nat.zero_le _, Nat.zero_le _⟩ (fun v_ H locs hw hP hS => ?_)
  have hw := hw.symm; subst hw
  refine lv_aload_n hx hb d_T_format_4 rfl (lv_at hl 0 rfl) ?_
  refine va_get (D := D) (ci := 0) (v := .ref (h (2 + 0))) (C := R_T) (T := F_T) (N := 4) hx hb hts (fun w h => .tail _ (fi_T w h)) hown hK hP 0 rfl rfl 2 (by decide) (hts _ (.tail _ m_88)) (fun _ h9 => h9) rfl d_T_format_5 ?_
  refine g_callVv (As := []) (rest := []) ⟨hx, hb, hml, hown, hts⟩ (C := R_C) (index := 49) (c_C_clearEntries l D h cA n tb A hn hn2 (wGd n d) (0) (by decide)) (cwV 0 hts (gd_V m_142 m_143 m_144 m_32 m_145) rfl rfl rfl hd_C_clearEntries ⟨Nat.le_of_ble_eq_true rfl, Nat.le_of_ble_eq_true rfl⟩) cW_w cX_x hB hP hS (ci := 2) rfl ((2 + 0)) (cW_C (by decide)) rfl hl.1 rfl (Nat.le_of_ble_eq_true rfl) d_T_format_8 ⟨Nat.zero_le _, Nat.zero_le _⟩ (fun v_ H locs hw hP hS => ?_)
  have hw := hw.symm; subst hw
  refine lv_aload_n hx hb d_T_format_11 rfl (lv_at hl 0 rfl) ?_
  refine va_get (D := D) (ci := 0) (v := .ref (h (2 + 0))) (C := R_T) (T := F_T) (N := 4) hx hb hts (fun w h => .tail _ (fi_T w h)) hown hK hP 0 rfl rfl 2 (by decide) (hts _ (.tail _ m_88)) (fun _ h9 => h9) rfl d_T_format_12 ?_
  refine lv_lload_n hx hb d_T_format_15 rfl (lv_at hl 1 rfl) ?_
  refine g_callVv (As := [.long (x)]) (rest := []) ⟨hx, hb, hml, hown, hts⟩ (C := R_C) (index := 52) (c_C_setDiskMark l D h cA n tb A hn hn2 (clr (wGd n d) (cAr n 0) 1024) (0) (by decide) (x)) (cwV 1 hts (gd_V m_147 m_148 m_149 m_32 m_150) rfl rfl rfl hd_C_setDiskMark ⟨Nat.le_of_ble_eq_true rfl, Nat.le_of_ble_eq_true rfl⟩) cW_w cX_x hB hP hS (ci := 2) rfl ((2 + 0)) (cW_C (by decide)) rfl hl.1 rfl (Nat.le_of_ble_eq_true rfl) d_T_format_16 ⟨Nat.zero_le _, Nat.zero_le _⟩ (fun v_ H locs hw hP hS => ?_)
  have hw := hw.symm; subst hw
  refine lv_aload_n hx hb d_T_format_19 rfl (lv_at hl 0 rfl) ?_
  refine lv_aload_n hx hb d_T_format_20 rfl (lv_at hl 0 rfl) ?_
  refine va_get (D := D) (ci := 0) (v := .ref (h (2 + 0))) (C := R_T) (T := F_T) (N := 4) hx hb hts (fun w h => .tail _ (fi_T w h)) hown hK hP 0 rfl rfl 2 (by decide) (hts _ (.tail _ m_88)) (fun _ h9 => h9) rfl d_T_format_21 ?_
  refine g_callVv (As := [.ref (h (2 + 0))]) (rest := []) ⟨hx, hb, hml, hown, hts⟩ (C := R_T) (index := 56) (c_T_writeTable l D h cA n tb A hn hn2 (guid (clr (wGd n d) (cAr n 0) 1024) (cHd n 0 + 56) x) (0) (by decide)) (cwV 1 hts (gd_V m_157 m_159 m_3 m_30 m_160) rfl rfl rfl hd_T_writeTable ⟨Nat.le_of_ble_eq_true rfl, Nat.le_of_ble_eq_true rfl⟩) cW_w cX_x hB hP hS (ci := 0) rfl (0) rfl rfl hl.1 rfl (Nat.le_of_ble_eq_true rfl) d_T_format_24 ⟨Nat.zero_le _, Nat.zero_le _⟩ (fun v_ H locs hw hP hS => ?_)
  have hw := hw.symm; subst hw
  exact g_vret hx hb hr hlk cW_w cX_x hB hP hS (rfl) d_T_format_27
abbrev w_T_seal : List Cond := .code y_T_seal b_T_seal 3 (some .boolean) :: ALL
abbrev rm_T_seal : Room := { frames := 5, cells := 0, slots := 0, locals := 113 }
theorem hd_T_seal : y_T_seal.cls = R_T ∧ y_T_seal.cls ≠ "java/lang/invoke/MethodHandle" ∧ y_T_seal.cls ≠ "java/lang/invoke/VarHandle" ∧ (parseMethodDescriptor y_T_seal.desc).map (fun d => d.parameters.length) = some 1 := by decide +kernel
set_option maxHeartbeats 4000000 in
set_option maxRecDepth 100000 in
theorem c_T_seal (l : Launch) (D : va_G) (h : Nat → Nat) (cA : ClassId) (n tb : Nat) (A : Nat → Prop) (hn : 12 ≤ n) (hn2 : n ≤ 24) (d : Nat → BitVec 8) (x : Int32) : Met l y_T_seal w_T_seal rm_T_seal (va_Pc [.ref (h 0), .int (x)] (cB D h cA n tb A d)) (va_Qi (fun r v => (r, v) = seR n d x) (cB D h cA n tb A) A) 0 0 A := by
  refine g_ofW (cc := b_T_seal) (maxL := 3) (ret := (some .boolean)) (by decide) rfl (Nat.le_of_ble_eq_true rfl) ?_
  intro p e s m below meth c ls hx hb hml hr hlk hown hts hnm hB hl
  have hown : s.vm.findClass R_T = some m.cls := hown
  have hP := hB.1
  have hK := hB.2.1
  have hS : va_S A s.heap s.heap [] := va_S.rf
  have hl : lv_has ls 3 [(0, .ref (h 0)), (1, .int (x))] := hl
  refine lv_aload_n hx hb d_T_seal_0 rfl (lv_at hl 0 rfl) ?_
  refine lv_iload_n hx hb d_T_seal_1 rfl (lv_at hl 1 rfl) ?_
  refine g_callVq (As := [.int (x)]) (rest := []) ⟨hx, hb, hml, hown, hts⟩ (C := R_T) (index := 60) (c_T_copyNumber l D h cA n tb A hn hn2 (d) (x)) (cwV 1 hts (gd_V m_223 m_225 m_7 m_30 m_226) rfl rfl rfl hd_T_copyNumber ⟨Nat.le_of_ble_eq_true rfl, Nat.le_of_ble_eq_true rfl⟩) cW_w cX_x hB hP hS (ci := 0) rfl (0) rfl rfl hl.1 rfl (Nat.le_of_ble_eq_true rfl) d_T_seal_2 ⟨Nat.zero_le _, Nat.zero_le _⟩ (fun r_ v_ H locs hw hP hS => ?_)
  obtain ⟨hw, hv⟩ := hw; have hv := hv.symm; subst hv
  rcases hw with ⟨j, hj, hsr, rfl⟩ | ⟨hsr, rfl⟩
  · have hHd := cHd_le hn hj
    have hAr := cAr_le hn hj
    refine lv_astore_n (lv' := [(2, .ref (h (2 + j))), (0, .ref (h 0)), (1, .int (x))]) hx hb d_T_seal_5 rfl hl (by decide) rfl (fun ls hl => ?_)
    refine lv_aload_n hx hb d_T_seal_6 rfl (lv_at hl 0 rfl) ?_
    refine lv_ifnonnull (tgt := 12) hx hb d_T_seal_7 (by decide) ?_
    refine lv_aload_n hx hb d_T_seal_12 rfl (lv_at hl 0 rfl) ?_
    refine g_callVv (As := []) (rest := []) ⟨hx, hb, hml, hown, hts⟩ (C := R_C) (index := 64) (c_C_writeSums l D h cA n tb A hn hn2 (d) (j) hj) (cwV 0 hts (gd_V m_227 m_191 m_192 m_32 m_193) rfl rfl rfl hd_C_writeSums ⟨Nat.le_of_ble_eq_true rfl, Nat.le_of_ble_eq_true rfl⟩) cW_w cX_x hB hP hS (ci := 2) rfl ((2 + j)) (cW_C hj) rfl hl.1 rfl (Nat.le_of_ble_eq_true rfl) d_T_seal_13 ⟨Nat.zero_le _, Nat.zero_le _⟩ (fun v_ H locs hw hP hS => ?_)
    have hw := hw.symm; subst hw
    refine lv_iconst (v := nI 1) hx hb d_T_seal_16 rfl ?_
    exact g_zret (v := (nI (1))) hx hb hr (rfl) hlk cW_w cX_x hB hP hS (by rw [seR, hsr, cI_t (inR_nI (by decide) hj), cl_nI (by omega)] <;> rfl) d_T_seal_17
  · refine lv_astore_nN (lv' := [(2, .null), (0, .ref (h 0)), (1, .int (x))]) hx hb d_T_seal_5 rfl hl (by decide) rfl (fun ls hl => ?_)
    refine lv_aload_nN hx hb d_T_seal_6 rfl (lv_at hl 0 rfl) ?_
    refine lv_ifnonnullN hx hb d_T_seal_7 ?_
    refine lv_iconst (v := nI 0) hx hb d_T_seal_10 rfl ?_
    exact g_zret (v := (nI (0))) hx hb hr (rfl) hlk cW_w cX_x hB hP hS ((cI_f hsr).symm) d_T_seal_11
abbrev w_T_fault : List Cond := .code y_T_fault b_T_fault 3 (some .int) :: ALL
abbrev rm_T_fault : Room := { frames := 5, cells := 0, slots := 0, locals := 118 }
theorem hd_T_fault : y_T_fault.cls = R_T ∧ y_T_fault.cls ≠ "java/lang/invoke/MethodHandle" ∧ y_T_fault.cls ≠ "java/lang/invoke/VarHandle" ∧ (parseMethodDescriptor y_T_fault.desc).map (fun d => d.parameters.length) = some 1 := by decide +kernel
set_option maxHeartbeats 4000000 in
set_option maxRecDepth 100000 in
theorem c_T_fault (l : Launch) (D : va_G) (h : Nat → Nat) (cA : ClassId) (n tb : Nat) (A : Nat → Prop) (hn : 12 ≤ n) (hn2 : n ≤ 24) (d : Nat → BitVec 8) (x : Int32) : Met l y_T_fault w_T_fault rm_T_fault (va_Pc [.ref (h 0), .int (x)] (cB D h cA n tb A d)) (va_Qi (fun r v => r = faR n d x ∧ v = d) (cB D h cA n tb A) A) 0 0 A := by
  refine g_ofW (cc := b_T_fault) (maxL := 3) (ret := (some .int)) (by decide) rfl (Nat.le_of_ble_eq_true rfl) ?_
  intro p e s m below meth c ls hx hb hml hr hlk hown hts hnm hB hl
  have hown : s.vm.findClass R_T = some m.cls := hown
  have hP := hB.1
  have hK := hB.2.1
  have hS : va_S A s.heap s.heap [] := va_S.rf
  have hl : lv_has ls 3 [(0, .ref (h 0)), (1, .int (x))] := hl
  refine lv_aload_n hx hb d_T_fault_0 rfl (lv_at hl 0 rfl) ?_
  refine lv_iload_n hx hb d_T_fault_1 rfl (lv_at hl 1 rfl) ?_
  refine g_callVq (As := [.int (x)]) (rest := []) ⟨hx, hb, hml, hown, hts⟩ (C := R_T) (index := 60) (c_T_copyNumber l D h cA n tb A hn hn2 (d) (x)) (cwV 1 hts (gd_V m_223 m_225 m_7 m_30 m_226) rfl rfl rfl hd_T_copyNumber ⟨Nat.le_of_ble_eq_true rfl, Nat.le_of_ble_eq_true rfl⟩) cW_w cX_x hB hP hS (ci := 0) rfl (0) rfl rfl hl.1 rfl (Nat.le_of_ble_eq_true rfl) d_T_fault_2 ⟨Nat.zero_le _, Nat.zero_le _⟩ (fun r_ v_ H locs hw hP hS => ?_)
  obtain ⟨hw, hv⟩ := hw; have hv := hv.symm; subst hv
  rcases hw with ⟨j, hj, hsr, rfl⟩ | ⟨hsr, rfl⟩
  · have hHd := cHd_le hn hj
    have hAr := cAr_le hn hj
    refine lv_astore_n (lv' := [(2, .ref (h (2 + j))), (0, .ref (h 0)), (1, .int (x))]) hx hb d_T_fault_5 rfl hl (by decide) rfl (fun ls hl => ?_)
    refine lv_aload_n hx hb d_T_fault_6 rfl (lv_at hl 0 rfl) ?_
    refine lv_ifnonnull (tgt := 14) hx hb d_T_fault_7 (by decide) ?_
    refine lv_aload_n hx hb d_T_fault_14 rfl (lv_at hl 0 rfl) ?_
    refine g_callVi (As := []) (rest := []) ⟨hx, hb, hml, hown, hts⟩ (C := R_C) (index := 76) (c_C_firstFault l D h cA n tb A hn hn2 (d) (j) hj) (cwV 0 hts (gd_V m_241 m_242 m_243 m_32 m_244) rfl rfl rfl hd_C_firstFault ⟨Nat.le_of_ble_eq_true rfl, Nat.le_of_ble_eq_true rfl⟩) cW_w cX_x hB hP hS (ci := 2) rfl ((2 + j)) (cW_C hj) rfl hl.1 rfl (Nat.le_of_ble_eq_true rfl) d_T_fault_15 ⟨Nat.zero_le _, Nat.zero_le _⟩ (fun r_ v_ H locs hw hP hS => ?_)
    obtain ⟨hw1, hw2⟩ := hw; have hw1 := hw1.symm; have hw2 := hw2.symm; subst hw1; subst hw2
    exact g_iret (v := (fft n j d)) hx hb hr hlk cW_w cX_x hB hP hS (⟨by rw [faR, hsr, cI_t (inR_nI (by decide) hj), cl_nI (by omega)], rfl⟩) d_T_fault_18
  · refine lv_astore_nN (lv' := [(2, .null), (0, .ref (h 0)), (1, .int (x))]) hx hb d_T_fault_5 rfl hl (by decide) rfl (fun ls hl => ?_)
    refine lv_aload_nN hx hb d_T_fault_6 rfl (lv_at hl 0 rfl) ?_
    refine lv_ifnonnullN hx hb d_T_fault_7 ?_
    refine lv_iconst (v := -1) hx hb d_T_fault_10 rfl ?_
    refine lv_goto (tgt := 18) hx hb d_T_fault_11 (by decide) ?_
    exact g_iret (v := (-1)) hx hb hr hlk cW_w cX_x hB hP hS (⟨(cI_f hsr).symm, rfl⟩) d_T_fault_18
abbrev w_T_source : List Cond := .code y_T_source b_T_source 2 (some .int) :: ALL
abbrev rm_T_source : Room := { frames := 6, cells := 0, slots := 0, locals := 138 }
theorem hd_T_source : y_T_source.cls = R_T ∧ y_T_source.cls ≠ "java/lang/invoke/MethodHandle" ∧ y_T_source.cls ≠ "java/lang/invoke/VarHandle" ∧ (parseMethodDescriptor y_T_source.desc).map (fun d => d.parameters.length) = some 0 := by decide +kernel
set_option maxHeartbeats 4000000 in
set_option maxRecDepth 100000 in
theorem c_T_source (l : Launch) (D : va_G) (h : Nat → Nat) (cA : ClassId) (n tb : Nat) (A : Nat → Prop) (hn : 12 ≤ n) (hn2 : n ≤ 24) (d : Nat → BitVec 8)  : Met l y_T_source w_T_source rm_T_source (va_Pc [.ref (h 0)] (cB D h cA n tb A d)) (va_Qi (fun r v => r = oS (src n d) (-1) nI ∧ v = d) (cB D h cA n tb A) A) 0 0 A := by
  refine g_ofW (cc := b_T_source) (maxL := 2) (ret := (some .int)) (by decide) rfl (Nat.le_of_ble_eq_true rfl) ?_
  intro p e s m below meth c ls hx hb hml hr hlk hown hts hnm hB hl
  have hown : s.vm.findClass R_T = some m.cls := hown
  have hP := hB.1
  have hK := hB.2.1
  have hS : va_S A s.heap s.heap [] := va_S.rf
  have hl : lv_has ls 2 [(0, .ref (h 0))] := hl
  refine lv_aload_n hx hb d_T_source_0 rfl (lv_at hl 0 rfl) ?_
  refine g_callVq (As := []) (rest := []) ⟨hx, hb, hml, hown, hts⟩ (C := R_T) (index := 80) (c_T_table l D h cA n tb A hn hn2 (d) ) (cwV 0 hts (gd_V m_290 m_292 m_13 m_30 m_293) rfl rfl rfl hd_T_table ⟨Nat.le_of_ble_eq_true rfl, Nat.le_of_ble_eq_true rfl⟩) cW_w cX_x hB hP hS (ci := 0) rfl (0) rfl rfl hl.1 rfl (Nat.le_of_ble_eq_true rfl) d_T_source_1 ⟨Nat.zero_le _, Nat.zero_le _⟩ (fun r_ v_ H locs hw hP hS => ?_)
  obtain ⟨hw, hv⟩ := hw; have hv := hv.symm; subst hv
  rcases hw with ⟨j, hj, hsr, rfl⟩ | ⟨hsr, rfl⟩
  · have hHd := cHd_le hn hj
    have hAr := cAr_le hn hj
    refine lv_astore_n (lv' := [(1, .ref (h (2 + j))), (0, .ref (h 0))]) hx hb d_T_source_4 rfl hl (by decide) rfl (fun ls hl => ?_)
    refine lv_aload_n hx hb d_T_source_5 rfl (lv_at hl 0 rfl) ?_
    refine lv_ifnonnull (tgt := 13) hx hb d_T_source_6 (by decide) ?_
    refine lv_aload_n hx hb d_T_source_13 rfl (lv_at hl 0 rfl) ?_
    refine va_getN (D := D) (ci := 2) (v := .int (nI (j))) (C := R_C) (T := F_C) (N := 8) hx hb hts (fun w h => .tail _ (fi_C w h)) hown hK hP (2 + j) (cW_C hj) rfl 0 (by decide) (va_Nw.use rfl hB.2.2.2.2.2.1) (fun _ h9 => h9) rfl d_T_source_14 ?_
    exact g_iret (v := (nI (j))) hx hb hr hlk cW_w cX_x hB hP hS (⟨by rw [oS_s hsr], rfl⟩) d_T_source_17
  · refine lv_astore_nN (lv' := [(1, .null), (0, .ref (h 0))]) hx hb d_T_source_4 rfl hl (by decide) rfl (fun ls hl => ?_)
    refine lv_aload_nN hx hb d_T_source_5 rfl (lv_at hl 0 rfl) ?_
    refine lv_ifnonnullN hx hb d_T_source_6 ?_
    refine lv_iconst (v := -1) hx hb d_T_source_9 rfl ?_
    refine lv_goto (tgt := 17) hx hb d_T_source_10 (by decide) ?_
    exact g_iret (v := (-1)) hx hb hr hlk cW_w cX_x hB hP hS (⟨(oS_n hsr).symm, rfl⟩) d_T_source_17
abbrev w_T_count : List Cond := .code y_T_count b_T_count 2 (some .int) :: ALL
abbrev rm_T_count : Room := { frames := 6, cells := 0, slots := 0, locals := 138 }
theorem hd_T_count : y_T_count.cls = R_T ∧ y_T_count.cls ≠ "java/lang/invoke/MethodHandle" ∧ y_T_count.cls ≠ "java/lang/invoke/VarHandle" ∧ (parseMethodDescriptor y_T_count.desc).map (fun d => d.parameters.length) = some 0 := by decide +kernel
set_option maxHeartbeats 4000000 in
set_option maxRecDepth 100000 in
theorem c_T_count (l : Launch) (D : va_G) (h : Nat → Nat) (cA : ClassId) (n tb : Nat) (A : Nat → Prop) (hn : 12 ≤ n) (hn2 : n ≤ 24) (d : Nat → BitVec 8)  : Met l y_T_count w_T_count rm_T_count (va_Pc [.ref (h 0)] (cB D h cA n tb A d)) (va_Qi (fun r v => r = coR n d ∧ v = d) (cB D h cA n tb A) A) 0 0 A := by
  refine g_ofW (cc := b_T_count) (maxL := 2) (ret := (some .int)) (by decide) rfl (Nat.le_of_ble_eq_true rfl) ?_
  intro p e s m below meth c ls hx hb hml hr hlk hown hts hnm hB hl
  have hown : s.vm.findClass R_T = some m.cls := hown
  have hP := hB.1
  have hK := hB.2.1
  have hS : va_S A s.heap s.heap [] := va_S.rf
  have hl : lv_has ls 2 [(0, .ref (h 0))] := hl
  refine lv_aload_n hx hb d_T_count_0 rfl (lv_at hl 0 rfl) ?_
  refine g_callVq (As := []) (rest := []) ⟨hx, hb, hml, hown, hts⟩ (C := R_T) (index := 80) (c_T_table l D h cA n tb A hn hn2 (d) ) (cwV 0 hts (gd_V m_290 m_292 m_13 m_30 m_293) rfl rfl rfl hd_T_table ⟨Nat.le_of_ble_eq_true rfl, Nat.le_of_ble_eq_true rfl⟩) cW_w cX_x hB hP hS (ci := 0) rfl (0) rfl rfl hl.1 rfl (Nat.le_of_ble_eq_true rfl) d_T_count_1 ⟨Nat.zero_le _, Nat.zero_le _⟩ (fun r_ v_ H locs hw hP hS => ?_)
  obtain ⟨hw, hv⟩ := hw; have hv := hv.symm; subst hv
  rcases hw with ⟨j, hj, hsr, rfl⟩ | ⟨hsr, rfl⟩
  · have hHd := cHd_le hn hj
    have hAr := cAr_le hn hj
    refine lv_astore_n (lv' := [(1, .ref (h (2 + j))), (0, .ref (h 0))]) hx hb d_T_count_4 rfl hl (by decide) rfl (fun ls hl => ?_)
    refine lv_aload_n hx hb d_T_count_5 rfl (lv_at hl 0 rfl) ?_
    refine lv_ifnonnull (tgt := 13) hx hb d_T_count_6 (by decide) ?_
    refine lv_aload_n hx hb d_T_count_13 rfl (lv_at hl 0 rfl) ?_
    refine g_callVi (As := []) (rest := []) ⟨hx, hb, hml, hown, hts⟩ (C := R_C) (index := 140) (c_C_partitions l D h cA n tb A hn hn2 (d) (j) hj) (cwV 0 hts (gd_V m_365 m_366 m_367 m_32 m_368) rfl rfl rfl hd_C_partitions ⟨Nat.le_of_ble_eq_true rfl, Nat.le_of_ble_eq_true rfl⟩) cW_w cX_x hB hP hS (ci := 2) rfl ((2 + j)) (cW_C hj) rfl hl.1 rfl (Nat.le_of_ble_eq_true rfl) d_T_count_14 ⟨Nat.zero_le _, Nat.zero_le _⟩ (fun r_ v_ H locs hw hP hS => ?_)
    obtain ⟨hw1, hw2⟩ := hw; have hw1 := hw1.symm; have hw2 := hw2.symm; subst hw1; subst hw2
    exact g_iret (v := (nI (cnN (fun i_ => ¬ frE d (cAr n j) i_) 8))) hx hb hr hlk cW_w cX_x hB hP hS (⟨by rw [coR, oS_s hsr], rfl⟩) d_T_count_17
  · refine lv_astore_nN (lv' := [(1, .null), (0, .ref (h 0))]) hx hb d_T_count_4 rfl hl (by decide) rfl (fun ls hl => ?_)
    refine lv_aload_nN hx hb d_T_count_5 rfl (lv_at hl 0 rfl) ?_
    refine lv_ifnonnullN hx hb d_T_count_6 ?_
    refine lv_iconst (v := -1) hx hb d_T_count_9 rfl ?_
    refine lv_goto (tgt := 17) hx hb d_T_count_10 (by decide) ?_
    exact g_iret (v := (-1)) hx hb hr hlk cW_w cX_x hB hP hS (⟨(oS_n hsr).symm, rfl⟩) d_T_count_17
abbrev w_T_room : List Cond := .code y_T_room b_T_room 2 (some .int) :: ALL
abbrev rm_T_room : Room := { frames := 6, cells := 0, slots := 0, locals := 138 }
theorem hd_T_room : y_T_room.cls = R_T ∧ y_T_room.cls ≠ "java/lang/invoke/MethodHandle" ∧ y_T_room.cls ≠ "java/lang/invoke/VarHandle" ∧ (parseMethodDescriptor y_T_room.desc).map (fun d => d.parameters.length) = some 0 := by decide +kernel
set_option maxHeartbeats 4000000 in
set_option maxRecDepth 100000 in
theorem c_T_room (l : Launch) (D : va_G) (h : Nat → Nat) (cA : ClassId) (n tb : Nat) (A : Nat → Prop) (hn : 12 ≤ n) (hn2 : n ≤ 24) (d : Nat → BitVec 8)  : Met l y_T_room w_T_room rm_T_room (va_Pc [.ref (h 0)] (cB D h cA n tb A d)) (va_Qi (fun r v => r = roR n d ∧ v = d) (cB D h cA n tb A) A) 0 0 A := by
  refine g_ofW (cc := b_T_room) (maxL := 2) (ret := (some .int)) (by decide) rfl (Nat.le_of_ble_eq_true rfl) ?_
  intro p e s m below meth c ls hx hb hml hr hlk hown hts hnm hB hl
  have hown : s.vm.findClass R_T = some m.cls := hown
  have hP := hB.1
  have hK := hB.2.1
  have hS : va_S A s.heap s.heap [] := va_S.rf
  have hl : lv_has ls 2 [(0, .ref (h 0))] := hl
  refine lv_aload_n hx hb d_T_room_0 rfl (lv_at hl 0 rfl) ?_
  refine g_callVq (As := []) (rest := []) ⟨hx, hb, hml, hown, hts⟩ (C := R_T) (index := 80) (c_T_table l D h cA n tb A hn hn2 (d) ) (cwV 0 hts (gd_V m_290 m_292 m_13 m_30 m_293) rfl rfl rfl hd_T_table ⟨Nat.le_of_ble_eq_true rfl, Nat.le_of_ble_eq_true rfl⟩) cW_w cX_x hB hP hS (ci := 0) rfl (0) rfl rfl hl.1 rfl (Nat.le_of_ble_eq_true rfl) d_T_room_1 ⟨Nat.zero_le _, Nat.zero_le _⟩ (fun r_ v_ H locs hw hP hS => ?_)
  obtain ⟨hw, hv⟩ := hw; have hv := hv.symm; subst hv
  rcases hw with ⟨j, hj, hsr, rfl⟩ | ⟨hsr, rfl⟩
  · have hHd := cHd_le hn hj
    have hAr := cAr_le hn hj
    refine lv_astore_n (lv' := [(1, .ref (h (2 + j))), (0, .ref (h 0))]) hx hb d_T_room_4 rfl hl (by decide) rfl (fun ls hl => ?_)
    refine lv_aload_n hx hb d_T_room_5 rfl (lv_at hl 0 rfl) ?_
    refine lv_ifnonnull (tgt := 13) hx hb d_T_room_6 (by decide) ?_
    refine lv_aload_n hx hb d_T_room_13 rfl (lv_at hl 0 rfl) ?_
    refine g_callVi (As := []) (rest := []) ⟨hx, hb, hml, hown, hts⟩ (C := R_C) (index := 153) (c_C_unusedBlocks l D h cA n tb A hn hn2 (d) (j) hj) (cwV 0 hts (gd_V m_386 m_387 m_388 m_32 m_389) rfl rfl rfl hd_C_unusedBlocks ⟨Nat.le_of_ble_eq_true rfl, Nat.le_of_ble_eq_true rfl⟩) cW_w cX_x hB hP hS (ci := 2) rfl ((2 + j)) (cW_C hj) rfl hl.1 rfl (Nat.le_of_ble_eq_true rfl) d_T_room_14 ⟨Nat.zero_le _, Nat.zero_le _⟩ (fun r_ v_ H locs hw hP hS => ?_)
    obtain ⟨hw1, hw2⟩ := hw; have hw1 := hw1.symm; have hw2 := hw2.symm; subst hw1; subst hw2
    exact g_iret (v := (unU d (cAr n j) (nI (n - 4 - 4 + 1)) 8)) hx hb hr hlk cW_w cX_x hB hP hS (⟨by rw [roR, oS_s hsr], rfl⟩) d_T_room_17
  · refine lv_astore_nN (lv' := [(1, .null), (0, .ref (h 0))]) hx hb d_T_room_4 rfl hl (by decide) rfl (fun ls hl => ?_)
    refine lv_aload_nN hx hb d_T_room_5 rfl (lv_at hl 0 rfl) ?_
    refine lv_ifnonnullN hx hb d_T_room_6 ?_
    refine lv_iconst (v := -1) hx hb d_T_room_9 rfl ?_
    refine lv_goto (tgt := 17) hx hb d_T_room_10 (by decide) ?_
    exact g_iret (v := (-1)) hx hb hr hlk cW_w cX_x hB hP hS (⟨(oS_n hsr).symm, rfl⟩) d_T_room_17
abbrev w_T_remove : List Cond := .code y_T_remove b_T_remove 3 (some .boolean) :: ALL
abbrev rm_T_remove : Room := { frames := 7, cells := 0, slots := 0, locals := 159 }
theorem hd_T_remove : y_T_remove.cls = R_T ∧ y_T_remove.cls ≠ "java/lang/invoke/MethodHandle" ∧ y_T_remove.cls ≠ "java/lang/invoke/VarHandle" ∧ (parseMethodDescriptor y_T_remove.desc).map (fun d => d.parameters.length) = some 1 := by decide +kernel
set_option maxHeartbeats 4000000 in
set_option maxRecDepth 100000 in
theorem c_T_remove (l : Launch) (D : va_G) (h : Nat → Nat) (cA : ClassId) (n tb : Nat) (A : Nat → Prop) (hn : 12 ≤ n) (hn2 : n ≤ 24) (d : Nat → BitVec 8) (x : Int32) : Met l y_T_remove w_T_remove rm_T_remove (va_Pc [.ref (h 0), .int (x)] (cB D h cA n tb A d)) (va_Qi (fun r v => (r, v) = rmR n d x) (cB D h cA n tb A) A) 0 0 A := by
  refine g_ofW (cc := b_T_remove) (maxL := 3) (ret := (some .boolean)) (by decide) rfl (Nat.le_of_ble_eq_true rfl) ?_
  intro p e s m below meth c ls hx hb hml hr hlk hown hts hnm hB hl
  have hown : s.vm.findClass R_T = some m.cls := hown
  have hP := hB.1
  have hK := hB.2.1
  have hS : va_S A s.heap s.heap [] := va_S.rf
  have hl : lv_has ls 3 [(0, .ref (h 0)), (1, .int (x))] := hl
  refine lv_aload_n hx hb d_T_remove_0 rfl (lv_at hl 0 rfl) ?_
  refine g_callVq (As := []) (rest := []) ⟨hx, hb, hml, hown, hts⟩ (C := R_T) (index := 80) (c_T_table l D h cA n tb A hn hn2 (d) ) (cwV 0 hts (gd_V m_290 m_292 m_13 m_30 m_293) rfl rfl rfl hd_T_table ⟨Nat.le_of_ble_eq_true rfl, Nat.le_of_ble_eq_true rfl⟩) cW_w cX_x hB hP hS (ci := 0) rfl (0) rfl rfl hl.1 rfl (Nat.le_of_ble_eq_true rfl) d_T_remove_1 ⟨Nat.zero_le _, Nat.zero_le _⟩ (fun r_ v_ H locs hw hP hS => ?_)
  obtain ⟨hw, hv⟩ := hw; have hv := hv.symm; subst hv
  rcases hw with ⟨j, hj, hsr, rfl⟩ | ⟨hsr, rfl⟩
  · have hHd := cHd_le hn hj
    have hAr := cAr_le hn hj
    refine lv_astore_n (lv' := [(2, .ref (h (2 + j))), (0, .ref (h 0)), (1, .int (x))]) hx hb d_T_remove_4 rfl hl (by decide) rfl (fun ls hl => ?_)
    refine lv_aload_n hx hb d_T_remove_5 rfl (lv_at hl 0 rfl) ?_
    refine lv_iload_n hx hb d_T_remove_6 rfl (lv_at hl 2 rfl) ?_
    refine g_callSi (As := [.ref (h (2 + j)), .int (x)]) (rest := []) ⟨hx, hb, hml, hown, hts⟩ (index := 120) (c_T_isPartition l D h cA n tb A hn hn2 (d) (j) hj (x)) (cwS 2 hts (gd_S m_330 m_331 m_30 m_332) rfl rfl rfl hd_T_isPartition ⟨Nat.le_of_ble_eq_true rfl, Nat.le_of_ble_eq_true rfl⟩) cW_w cX_x hB hP hS rfl hl.1 rfl (Nat.le_of_ble_eq_true rfl) d_T_remove_7 ⟨Nat.zero_le _, Nat.zero_le _⟩ (fun r_ v_ H locs hw hP hS => ?_)
    obtain ⟨hw1, hw2⟩ := hw; have hw1 := hw1.symm; have hw2 := hw2.symm; subst hw1; subst hw2
    refine lv_if_ne (tgt := 15) hx hb d_T_remove_10 (by decide) (fun c_10 => ?_) (fun c_10 => ?_)
    · have c_10 := bI_1 c_10
      obtain ⟨a, ha, rfl⟩ := inR_ex (by omega) c_10.1
      refine lv_aload_n hx hb d_T_remove_15 rfl (lv_at hl 0 rfl) ?_
      refine lv_iload_n hx hb d_T_remove_16 rfl (lv_at hl 2 rfl) ?_
      refine g_callVv (As := [.int (nI (a))]) (rest := []) ⟨hx, hb, hml, hown, hts⟩ (C := R_C) (index := 105) (c_C_clearEntry l D h cA n tb A hn hn2 (d) (j) hj (a) (by omega)) (cwV 1 hts (gd_V m_309 m_310 m_311 m_32 m_312) rfl rfl rfl hd_C_clearEntry ⟨Nat.le_of_ble_eq_true rfl, Nat.le_of_ble_eq_true rfl⟩) cW_w cX_x hB hP hS (ci := 2) rfl ((2 + j)) (cW_C hj) rfl hl.1 rfl (Nat.le_of_ble_eq_true rfl) d_T_remove_17 ⟨Nat.zero_le _, Nat.zero_le _⟩ (fun v_ H locs hw hP hS => ?_)
      have hw := hw.symm; subst hw
      refine lv_aload_n hx hb d_T_remove_20 rfl (lv_at hl 1 rfl) ?_
      refine lv_aload_n hx hb d_T_remove_21 rfl (lv_at hl 0 rfl) ?_
      refine g_callVv (As := [.ref (h (2 + j))]) (rest := []) ⟨hx, hb, hml, hown, hts⟩ (C := R_T) (index := 56) (c_T_writeTable l D h cA n tb A hn hn2 (clr d (cAr n j + a * 128) 128) (j) hj) (cwV 1 hts (gd_V m_157 m_159 m_3 m_30 m_160) rfl rfl rfl hd_T_writeTable ⟨Nat.le_of_ble_eq_true rfl, Nat.le_of_ble_eq_true rfl⟩) cW_w cX_x hB hP hS (ci := 0) rfl (0) rfl rfl hl.1 rfl (Nat.le_of_ble_eq_true rfl) d_T_remove_22 ⟨Nat.zero_le _, Nat.zero_le _⟩ (fun v_ H locs hw hP hS => ?_)
      have hw := hw.symm; subst hw
      refine lv_iconst (v := nI 1) hx hb d_T_remove_25 rfl ?_
      exact g_zret (v := (nI (1))) hx hb hr (rfl) hlk cW_w cX_x hB hP hS (by rw [rmR, oS_s hsr, cI_t c_10, cl_nI (by omega)] <;> rfl) d_T_remove_26
    · have c_10 := bI_0.mp c_10
      refine lv_iconst (v := nI 0) hx hb d_T_remove_13 rfl ?_
      exact g_zret (v := (nI (0))) hx hb hr (rfl) hlk cW_w cX_x hB hP hS (by rw [rmR, oS_s hsr, cI_f (q := ptQ n d j x) (c_10)] <;> rfl) d_T_remove_14
  · refine lv_astore_nN (lv' := [(2, .null), (0, .ref (h 0)), (1, .int (x))]) hx hb d_T_remove_4 rfl hl (by decide) rfl (fun ls hl => ?_)
    refine lv_aload_nN hx hb d_T_remove_5 rfl (lv_at hl 0 rfl) ?_
    refine lv_iload_n hx hb d_T_remove_6 rfl (lv_at hl 2 rfl) ?_
    refine g_callSi (As := [.null, .int (x)]) (rest := []) ⟨hx, hb, hml, hown, hts⟩ (index := 120) (c_T_isPartitionN l D h cA n tb A hn hn2 (d) (x)) (cwS 2 hts (gd_S m_330 m_331 m_30 m_332) rfl rfl rfl hd_T_isPartition ⟨Nat.le_of_ble_eq_true rfl, Nat.le_of_ble_eq_true rfl⟩) cW_w cX_x hB hP hS rfl hl.1 rfl (Nat.le_of_ble_eq_true rfl) d_T_remove_7 ⟨Nat.zero_le _, Nat.zero_le _⟩ (fun r_ v_ H locs hw hP hS => ?_)
    obtain ⟨hw1, hw2⟩ := hw; have hw1 := hw1.symm; have hw2 := hw2.symm; subst hw1; subst hw2
    refine lv_if_ne (tgt := 15) hx hb d_T_remove_10 (by decide) (fun c9 => absurd (by decide) c9) (fun _ => ?_)
    refine lv_iconst (v := nI 0) hx hb d_T_remove_13 rfl ?_
    exact g_zret (v := (nI (0))) hx hb hr (rfl) hlk cW_w cX_x hB hP hS ((oS_n hsr).symm) d_T_remove_14
abbrev w_T_rename : List Cond := .code y_T_rename b_T_rename 5 (some .boolean) :: ALL
abbrev rm_T_rename : Room := { frames := 7, cells := 0, slots := 0, locals := 159 }
theorem hd_T_rename : y_T_rename.cls = R_T ∧ y_T_rename.cls ≠ "java/lang/invoke/MethodHandle" ∧ y_T_rename.cls ≠ "java/lang/invoke/VarHandle" ∧ (parseMethodDescriptor y_T_rename.desc).map (fun d => d.parameters.length) = some 3 := by decide +kernel
set_option maxHeartbeats 4000000 in
set_option maxRecDepth 100000 in
theorem c_T_rename (l : Launch) (D : va_G) (h : Nat → Nat) (cA : ClassId) (n tb : Nat) (A : Nat → Prop) (hn : 12 ≤ n) (hn2 : n ≤ 24) (d : Nat → BitVec 8) (x y z : Int32) : Met l y_T_rename w_T_rename rm_T_rename (va_Pc [.ref (h 0), .int (x), .int (y), .int (z)] (cB D h cA n tb A d)) (va_Qi (fun r v => (r, v) = rnR n d x y z) (cB D h cA n tb A) A) 0 0 A := by
  refine g_ofW (cc := b_T_rename) (maxL := 5) (ret := (some .boolean)) (by decide) rfl (Nat.le_of_ble_eq_true rfl) ?_
  intro p e s m below meth c ls hx hb hml hr hlk hown hts hnm hB hl
  have hown : s.vm.findClass R_T = some m.cls := hown
  have hP := hB.1
  have hK := hB.2.1
  have hS : va_S A s.heap s.heap [] := va_S.rf
  have hl : lv_has ls 5 [(0, .ref (h 0)), (1, .int (x)), (2, .int (y)), (3, .int (z))] := hl
  refine lv_aload_n hx hb d_T_rename_0 rfl (lv_at hl 0 rfl) ?_
  refine g_callVq (As := []) (rest := []) ⟨hx, hb, hml, hown, hts⟩ (C := R_T) (index := 80) (c_T_table l D h cA n tb A hn hn2 (d) ) (cwV 0 hts (gd_V m_290 m_292 m_13 m_30 m_293) rfl rfl rfl hd_T_table ⟨Nat.le_of_ble_eq_true rfl, Nat.le_of_ble_eq_true rfl⟩) cW_w cX_x hB hP hS (ci := 0) rfl (0) rfl rfl hl.1 rfl (Nat.le_of_ble_eq_true rfl) d_T_rename_1 ⟨Nat.zero_le _, Nat.zero_le _⟩ (fun r_ v_ H locs hw hP hS => ?_)
  obtain ⟨hw, hv⟩ := hw; have hv := hv.symm; subst hv
  rcases hw with ⟨j, hj, hsr, rfl⟩ | ⟨hsr, rfl⟩
  · have hHd := cHd_le hn hj
    have hAr := cAr_le hn hj
    refine lv_astore (lv' := [(4, .ref (h (2 + j))), (0, .ref (h 0)), (1, .int (x)), (2, .int (y)), (3, .int (z))]) hx hb d_T_rename_4 hl (by decide) rfl (fun ls hl => ?_)
    refine lv_aload hx hb d_T_rename_6 (lv_at hl 0 rfl) ?_
    refine lv_iload_n hx hb d_T_rename_8 rfl (lv_at hl 2 rfl) ?_
    refine g_callSi (As := [.ref (h (2 + j)), .int (x)]) (rest := []) ⟨hx, hb, hml, hown, hts⟩ (index := 120) (c_T_isPartition l D h cA n tb A hn hn2 (d) (j) hj (x)) (cwS 2 hts (gd_S m_330 m_331 m_30 m_332) rfl rfl rfl hd_T_isPartition ⟨Nat.le_of_ble_eq_true rfl, Nat.le_of_ble_eq_true rfl⟩) cW_w cX_x hB hP hS rfl hl.1 rfl (Nat.le_of_ble_eq_true rfl) d_T_rename_9 ⟨Nat.zero_le _, Nat.zero_le _⟩ (fun r_ v_ H locs hw hP hS => ?_)
    obtain ⟨hw1, hw2⟩ := hw; have hw1 := hw1.symm; have hw2 := hw2.symm; subst hw1; subst hw2
    refine lv_if_eq (tgt := 22) hx hb d_T_rename_12 (by decide) (fun c_12 => ?_) (fun c_12 => ?_)
    · have c_12 := bI_0.mp c_12
      refine lv_iconst (v := nI 0) hx hb d_T_rename_22 rfl ?_
      exact g_zret (v := (nI (0))) hx hb hr (rfl) hlk cW_w cX_x hB hP hS (by rw [rnR, oS_s hsr, cI_f (q := ptQ n d j x ∧ inR y 36) (fun z => c_12 z.1)] <;> rfl) d_T_rename_23
    · have c_12 := bI_1 c_12
      refine lv_iload_n hx hb d_T_rename_15 rfl (lv_at hl 3 rfl) ?_
      refine g_callSi (As := [.int (y)]) (rest := []) ⟨hx, hb, hml, hown, hts⟩ (index := 124) (c_T_isLetter l D h cA n tb A hn hn2 (d) (y)) (cwS 1 hts (gd_S m_341 m_342 m_30 m_343) rfl rfl rfl hd_T_isLetter ⟨Nat.le_of_ble_eq_true rfl, Nat.le_of_ble_eq_true rfl⟩) cW_w cX_x hB hP hS rfl hl.1 rfl (Nat.le_of_ble_eq_true rfl) d_T_rename_16 ⟨Nat.zero_le _, Nat.zero_le _⟩ (fun r_ v_ H locs hw hP hS => ?_)
      obtain ⟨hw1, hw2⟩ := hw; have hw1 := hw1.symm; have hw2 := hw2.symm; subst hw1; subst hw2
      refine lv_if_ne (tgt := 24) hx hb d_T_rename_19 (by decide) (fun c_19 => ?_) (fun c_19 => ?_)
      · have c_19 := bI_1 c_19
        obtain ⟨a, ha, rfl⟩ := inR_ex (by omega) c_12.1
        obtain ⟨b, hb2, rfl⟩ := inR_ex (by omega) c_19
        refine lv_aload hx hb d_T_rename_24 (lv_at hl 0 rfl) ?_
        refine lv_iload_n hx hb d_T_rename_26 rfl (lv_at hl 2 rfl) ?_
        refine lv_iload_n hx hb d_T_rename_27 rfl (lv_at hl 3 rfl) ?_
        refine lv_iload_n hx hb d_T_rename_28 rfl (lv_at hl 4 rfl) ?_
        refine g_callVv (As := [.int (nI (a)), .int (nI (b)), .int (z)]) (rest := []) ⟨hx, hb, hml, hown, hts⟩ (C := R_C) (index := 128) (c_C_setLetter l D h cA n tb A hn hn2 (d) (j) hj (a) (b) (z) (by omega) (by omega)) (cwV 3 hts (gd_V m_344 m_345 m_346 m_32 m_347) rfl rfl rfl hd_C_setLetter ⟨Nat.le_of_ble_eq_true rfl, Nat.le_of_ble_eq_true rfl⟩) cW_w cX_x hB hP hS (ci := 2) rfl ((2 + j)) (cW_C hj) rfl hl.1 rfl (Nat.le_of_ble_eq_true rfl) d_T_rename_29 ⟨Nat.zero_le _, Nat.zero_le _⟩ (fun v_ H locs hw hP hS => ?_)
        have hw := hw.symm; subst hw
        refine lv_aload_n hx hb d_T_rename_32 rfl (lv_at hl 1 rfl) ?_
        refine lv_aload hx hb d_T_rename_33 (lv_at hl 0 rfl) ?_
        refine g_callVv (As := [.ref (h (2 + j))]) (rest := []) ⟨hx, hb, hml, hown, hts⟩ (C := R_T) (index := 56) (c_T_writeTable l D h cA n tb A hn hn2 (setN d (cAr n j + a * 128 + 56 + 2 * b) 2 z.toInt64) (j) hj) (cwV 1 hts (gd_V m_157 m_159 m_3 m_30 m_160) rfl rfl rfl hd_T_writeTable ⟨Nat.le_of_ble_eq_true rfl, Nat.le_of_ble_eq_true rfl⟩) cW_w cX_x hB hP hS (ci := 0) rfl (0) rfl rfl hl.1 rfl (Nat.le_of_ble_eq_true rfl) d_T_rename_35 ⟨Nat.zero_le _, Nat.zero_le _⟩ (fun v_ H locs hw hP hS => ?_)
        have hw := hw.symm; subst hw
        refine lv_iconst (v := nI 1) hx hb d_T_rename_38 rfl ?_
        exact g_zret (v := (nI (1))) hx hb hr (rfl) hlk cW_w cX_x hB hP hS (by rw [rnR, oS_s hsr, cI_t ⟨c_12, c_19⟩, cl_nI (by omega), cl_nI (by omega)] <;> rfl) d_T_rename_39
      · have c_19 := bI_0.mp c_19
        refine lv_iconst (v := nI 0) hx hb d_T_rename_22 rfl ?_
        exact g_zret (v := (nI (0))) hx hb hr (rfl) hlk cW_w cX_x hB hP hS (by rw [rnR, oS_s hsr, cI_f (q := ptQ n d j x ∧ inR y 36) (fun z => c_19 z.2)] <;> rfl) d_T_rename_23
  · refine lv_astoreN (lv' := [(4, .null), (0, .ref (h 0)), (1, .int (x)), (2, .int (y)), (3, .int (z))]) hx hb d_T_rename_4 hl (by decide) rfl (fun ls hl => ?_)
    refine lv_aloadN hx hb d_T_rename_6 (lv_at hl 0 rfl) ?_
    refine lv_iload_n hx hb d_T_rename_8 rfl (lv_at hl 2 rfl) ?_
    refine g_callSi (As := [.null, .int (x)]) (rest := []) ⟨hx, hb, hml, hown, hts⟩ (index := 120) (c_T_isPartitionN l D h cA n tb A hn hn2 (d) (x)) (cwS 2 hts (gd_S m_330 m_331 m_30 m_332) rfl rfl rfl hd_T_isPartition ⟨Nat.le_of_ble_eq_true rfl, Nat.le_of_ble_eq_true rfl⟩) cW_w cX_x hB hP hS rfl hl.1 rfl (Nat.le_of_ble_eq_true rfl) d_T_rename_9 ⟨Nat.zero_le _, Nat.zero_le _⟩ (fun r_ v_ H locs hw hP hS => ?_)
    obtain ⟨hw1, hw2⟩ := hw; have hw1 := hw1.symm; have hw2 := hw2.symm; subst hw1; subst hw2
    refine lv_if_eq (tgt := 22) hx hb d_T_rename_12 (by decide) (fun _ => ?_) (fun c9 => absurd (by decide) c9)
    refine lv_iconst (v := nI 0) hx hb d_T_rename_22 rfl ?_
    exact g_zret (v := (nI (0))) hx hb hr (rfl) hlk cW_w cX_x hB hP hS ((oS_n hsr).symm) d_T_rename_23
abbrev w_T_move : List Cond := .code y_T_move b_T_move 5 (some .boolean) :: ALL
abbrev rm_T_move : Room := { frames := 7, cells := 0, slots := 0, locals := 159 }
theorem hd_T_move : y_T_move.cls = R_T ∧ y_T_move.cls ≠ "java/lang/invoke/MethodHandle" ∧ y_T_move.cls ≠ "java/lang/invoke/VarHandle" ∧ (parseMethodDescriptor y_T_move.desc).map (fun d => d.parameters.length) = some 3 := by decide +kernel
set_option maxHeartbeats 4000000 in
set_option maxRecDepth 100000 in
theorem c_T_move (l : Launch) (D : va_G) (h : Nat → Nat) (cA : ClassId) (n tb : Nat) (A : Nat → Prop) (hn : 12 ≤ n) (hn2 : n ≤ 24) (d : Nat → BitVec 8) (x y z : Int32) : Met l y_T_move w_T_move rm_T_move (va_Pc [.ref (h 0), .int (x), .int (y), .int (z)] (cB D h cA n tb A d)) (va_Qi (fun r v => (r, v) = moR n d x y z) (cB D h cA n tb A) A) 0 0 A := by
  refine g_ofW (cc := b_T_move) (maxL := 5) (ret := (some .boolean)) (by decide) rfl (Nat.le_of_ble_eq_true rfl) ?_
  intro p e s m below meth c ls hx hb hml hr hlk hown hts hnm hB hl
  have hown : s.vm.findClass R_T = some m.cls := hown
  have hP := hB.1
  have hK := hB.2.1
  have hS : va_S A s.heap s.heap [] := va_S.rf
  have hl : lv_has ls 5 [(0, .ref (h 0)), (1, .int (x)), (2, .int (y)), (3, .int (z))] := hl
  refine lv_aload_n hx hb d_T_move_0 rfl (lv_at hl 0 rfl) ?_
  refine g_callVq (As := []) (rest := []) ⟨hx, hb, hml, hown, hts⟩ (C := R_T) (index := 80) (c_T_table l D h cA n tb A hn hn2 (d) ) (cwV 0 hts (gd_V m_290 m_292 m_13 m_30 m_293) rfl rfl rfl hd_T_table ⟨Nat.le_of_ble_eq_true rfl, Nat.le_of_ble_eq_true rfl⟩) cW_w cX_x hB hP hS (ci := 0) rfl (0) rfl rfl hl.1 rfl (Nat.le_of_ble_eq_true rfl) d_T_move_1 ⟨Nat.zero_le _, Nat.zero_le _⟩ (fun r_ v_ H locs hw hP hS => ?_)
  obtain ⟨hw, hv⟩ := hw; have hv := hv.symm; subst hv
  rcases hw with ⟨j, hj, hsr, rfl⟩ | ⟨hsr, rfl⟩
  · have hHd := cHd_le hn hj
    have hAr := cAr_le hn hj
    refine lv_astore (lv' := [(4, .ref (h (2 + j))), (0, .ref (h 0)), (1, .int (x)), (2, .int (y)), (3, .int (z))]) hx hb d_T_move_4 hl (by decide) rfl (fun ls hl => ?_)
    refine lv_aload hx hb d_T_move_6 (lv_at hl 0 rfl) ?_
    refine lv_iload_n hx hb d_T_move_8 rfl (lv_at hl 2 rfl) ?_
    refine g_callSi (As := [.ref (h (2 + j)), .int (x)]) (rest := []) ⟨hx, hb, hml, hown, hts⟩ (index := 120) (c_T_isPartition l D h cA n tb A hn hn2 (d) (j) hj (x)) (cwS 2 hts (gd_S m_330 m_331 m_30 m_332) rfl rfl rfl hd_T_isPartition ⟨Nat.le_of_ble_eq_true rfl, Nat.le_of_ble_eq_true rfl⟩) cW_w cX_x hB hP hS rfl hl.1 rfl (Nat.le_of_ble_eq_true rfl) d_T_move_9 ⟨Nat.zero_le _, Nat.zero_le _⟩ (fun r_ v_ H locs hw hP hS => ?_)
    obtain ⟨hw1, hw2⟩ := hw; have hw1 := hw1.symm; have hw2 := hw2.symm; subst hw1; subst hw2
    refine lv_if_eq (tgt := 40) hx hb d_T_move_12 (by decide) (fun c_12 => ?_) (fun c_12 => ?_)
    · have c_12 := bI_0.mp c_12
      refine lv_iconst (v := nI 0) hx hb d_T_move_40 rfl ?_
      exact g_zret (v := (nI (0))) hx hb hr (rfl) hlk cW_w cX_x hB hP hS (by rw [moR, oS_s hsr, cI_f (q := ptQ n d j x ∧ usa n y.toInt64 z.toInt64 ∧ ¬ tak d (cAr n j) y.toInt64 z.toInt64 x) (fun z => c_12 z.1)] <;> rfl) d_T_move_41
    · have c_12 := bI_1 c_12
      refine lv_aload hx hb d_T_move_15 (lv_at hl 0 rfl) ?_
      refine lv_iload_n hx hb d_T_move_17 rfl (lv_at hl 3 rfl) ?_
      refine lv_i2l hx hb d_T_move_18 rfl ?_
      refine lv_iload_n hx hb d_T_move_19 rfl (lv_at hl 4 rfl) ?_
      refine lv_i2l hx hb d_T_move_20 rfl ?_
      refine g_callVi (As := [.long ((y).toInt64), .long ((z).toInt64)]) (rest := []) ⟨hx, hb, hml, hown, hts⟩ (C := R_C) (index := 87) (c_C_isUsable l D h cA n tb A hn hn2 (d) (j) hj ((y).toInt64) ((z).toInt64)) (cwV 2 hts (gd_V m_298 m_271 m_272 m_32 m_273) rfl rfl rfl hd_C_isUsable ⟨Nat.le_of_ble_eq_true rfl, Nat.le_of_ble_eq_true rfl⟩) cW_w cX_x hB hP hS (ci := 2) rfl ((2 + j)) (cW_C hj) rfl hl.1 rfl (Nat.le_of_ble_eq_true rfl) d_T_move_21 ⟨Nat.zero_le _, Nat.zero_le _⟩ (fun r_ v_ H locs hw hP hS => ?_)
      obtain ⟨hw1, hw2⟩ := hw; have hw1 := hw1.symm; have hw2 := hw2.symm; subst hw1; subst hw2
      refine lv_if_eq (tgt := 40) hx hb d_T_move_24 (by decide) (fun c_24 => ?_) (fun c_24 => ?_)
      · have c_24 := bI_0.mp c_24
        refine lv_iconst (v := nI 0) hx hb d_T_move_40 rfl ?_
        exact g_zret (v := (nI (0))) hx hb hr (rfl) hlk cW_w cX_x hB hP hS (by rw [moR, oS_s hsr, cI_f (q := ptQ n d j x ∧ usa n y.toInt64 z.toInt64 ∧ ¬ tak d (cAr n j) y.toInt64 z.toInt64 x) (fun z => c_24 z.2.1)] <;> rfl) d_T_move_41
      · have c_24 := bI_1 c_24
        refine lv_aload hx hb d_T_move_27 (lv_at hl 0 rfl) ?_
        refine lv_iload_n hx hb d_T_move_29 rfl (lv_at hl 3 rfl) ?_
        refine lv_i2l hx hb d_T_move_30 rfl ?_
        refine lv_iload_n hx hb d_T_move_31 rfl (lv_at hl 4 rfl) ?_
        refine lv_i2l hx hb d_T_move_32 rfl ?_
        refine lv_iload_n hx hb d_T_move_33 rfl (lv_at hl 2 rfl) ?_
        refine g_callVi (As := [.long ((y).toInt64), .long ((z).toInt64), .int (x)]) (rest := []) ⟨hx, hb, hml, hown, hts⟩ (C := R_C) (index := 91) (c_C_isTaken l D h cA n tb A hn hn2 (d) (j) hj ((y).toInt64) ((z).toInt64) (x)) (cwV 3 hts (gd_V m_299 m_275 m_276 m_32 m_277) rfl rfl rfl hd_C_isTaken ⟨Nat.le_of_ble_eq_true rfl, Nat.le_of_ble_eq_true rfl⟩) cW_w cX_x hB hP hS (ci := 2) rfl ((2 + j)) (cW_C hj) rfl hl.1 rfl (Nat.le_of_ble_eq_true rfl) d_T_move_34 ⟨Nat.zero_le _, Nat.zero_le _⟩ (fun r_ v_ H locs hw hP hS => ?_)
        obtain ⟨hw1, hw2⟩ := hw; have hw1 := hw1.symm; have hw2 := hw2.symm; subst hw1; subst hw2
        refine lv_if_eq (tgt := 42) hx hb d_T_move_37 (by decide) (fun c_37 => ?_) (fun c_37 => ?_)
        · have c_37 := bI_0.mp c_37
          obtain ⟨a, ha, rfl⟩ := inR_ex (by omega) c_12.1
          refine lv_aload hx hb d_T_move_42 (lv_at hl 0 rfl) ?_
          refine lv_iload_n hx hb d_T_move_44 rfl (lv_at hl 2 rfl) ?_
          refine lv_iload_n hx hb d_T_move_45 rfl (lv_at hl 3 rfl) ?_
          refine lv_iload_n hx hb d_T_move_46 rfl (lv_at hl 4 rfl) ?_
          refine g_callVv (As := [.int (nI (a)), .int (y), .int (z)]) (rest := []) ⟨hx, hb, hml, hown, hts⟩ (C := R_C) (index := 113) (c_C_setRange l D h cA n tb A hn hn2 (d) (j) hj (a) (y) (z) (by omega)) (cwV 3 hts (gd_V m_321 m_322 m_323 m_32 m_324) rfl rfl rfl hd_C_setRange ⟨Nat.le_of_ble_eq_true rfl, Nat.le_of_ble_eq_true rfl⟩) cW_w cX_x hB hP hS (ci := 2) rfl ((2 + j)) (cW_C hj) rfl hl.1 rfl (Nat.le_of_ble_eq_true rfl) d_T_move_47 ⟨Nat.zero_le _, Nat.zero_le _⟩ (fun v_ H locs hw hP hS => ?_)
          have hw := hw.symm; subst hw
          refine lv_aload_n hx hb d_T_move_50 rfl (lv_at hl 1 rfl) ?_
          refine lv_aload hx hb d_T_move_51 (lv_at hl 0 rfl) ?_
          refine g_callVv (As := [.ref (h (2 + j))]) (rest := []) ⟨hx, hb, hml, hown, hts⟩ (C := R_T) (index := 56) (c_T_writeTable l D h cA n tb A hn hn2 (setN (setN d (cAr n j + a * 128 + 32) 8 y.toInt64) (cAr n j + a * 128 + 40) 8 z.toInt64) (j) hj) (cwV 1 hts (gd_V m_157 m_159 m_3 m_30 m_160) rfl rfl rfl hd_T_writeTable ⟨Nat.le_of_ble_eq_true rfl, Nat.le_of_ble_eq_true rfl⟩) cW_w cX_x hB hP hS (ci := 0) rfl (0) rfl rfl hl.1 rfl (Nat.le_of_ble_eq_true rfl) d_T_move_53 ⟨Nat.zero_le _, Nat.zero_le _⟩ (fun v_ H locs hw hP hS => ?_)
          have hw := hw.symm; subst hw
          refine lv_iconst (v := nI 1) hx hb d_T_move_56 rfl ?_
          exact g_zret (v := (nI (1))) hx hb hr (rfl) hlk cW_w cX_x hB hP hS (by rw [moR, oS_s hsr, cI_t ⟨c_12, c_24, c_37⟩, cl_nI (by omega)] <;> rfl) d_T_move_57
        · have c_37 := bI_1 c_37
          refine lv_iconst (v := nI 0) hx hb d_T_move_40 rfl ?_
          exact g_zret (v := (nI (0))) hx hb hr (rfl) hlk cW_w cX_x hB hP hS (by rw [moR, oS_s hsr, cI_f (q := ptQ n d j x ∧ usa n y.toInt64 z.toInt64 ∧ ¬ tak d (cAr n j) y.toInt64 z.toInt64 x) (fun z => z.2.2 c_37)] <;> rfl) d_T_move_41
  · refine lv_astoreN (lv' := [(4, .null), (0, .ref (h 0)), (1, .int (x)), (2, .int (y)), (3, .int (z))]) hx hb d_T_move_4 hl (by decide) rfl (fun ls hl => ?_)
    refine lv_aloadN hx hb d_T_move_6 (lv_at hl 0 rfl) ?_
    refine lv_iload_n hx hb d_T_move_8 rfl (lv_at hl 2 rfl) ?_
    refine g_callSi (As := [.null, .int (x)]) (rest := []) ⟨hx, hb, hml, hown, hts⟩ (index := 120) (c_T_isPartitionN l D h cA n tb A hn hn2 (d) (x)) (cwS 2 hts (gd_S m_330 m_331 m_30 m_332) rfl rfl rfl hd_T_isPartition ⟨Nat.le_of_ble_eq_true rfl, Nat.le_of_ble_eq_true rfl⟩) cW_w cX_x hB hP hS rfl hl.1 rfl (Nat.le_of_ble_eq_true rfl) d_T_move_9 ⟨Nat.zero_le _, Nat.zero_le _⟩ (fun r_ v_ H locs hw hP hS => ?_)
    obtain ⟨hw1, hw2⟩ := hw; have hw1 := hw1.symm; have hw2 := hw2.symm; subst hw1; subst hw2
    refine lv_if_eq (tgt := 40) hx hb d_T_move_12 (by decide) (fun _ => ?_) (fun c9 => absurd (by decide) c9)
    refine lv_iconst (v := nI 0) hx hb d_T_move_40 rfl ?_
    exact g_zret (v := (nI (0))) hx hb hr (rfl) hlk cW_w cX_x hB hP hS ((oS_n hsr).symm) d_T_move_41
abbrev w_T_letter : List Cond := .code y_T_letter b_T_letter 4 (some .char) :: ALL
abbrev rm_T_letter : Room := { frames := 6, cells := 0, slots := 0, locals := 138 }
theorem hd_T_letter : y_T_letter.cls = R_T ∧ y_T_letter.cls ≠ "java/lang/invoke/MethodHandle" ∧ y_T_letter.cls ≠ "java/lang/invoke/VarHandle" ∧ (parseMethodDescriptor y_T_letter.desc).map (fun d => d.parameters.length) = some 2 := by decide +kernel
set_option maxHeartbeats 4000000 in
set_option maxRecDepth 100000 in
theorem c_T_letter (l : Launch) (D : va_G) (h : Nat → Nat) (cA : ClassId) (n tb : Nat) (A : Nat → Prop) (hn : 12 ≤ n) (hn2 : n ≤ 24) (d : Nat → BitVec 8) (x y : Int32) : Met l y_T_letter w_T_letter rm_T_letter (va_Pc [.ref (h 0), .int (x), .int (y)] (cB D h cA n tb A d)) (va_Qi (fun r v => r = leR n d x y ∧ v = d) (cB D h cA n tb A) A) 0 0 A := by
  refine g_ofW (cc := b_T_letter) (maxL := 4) (ret := (some .char)) (by decide) rfl (Nat.le_of_ble_eq_true rfl) ?_
  intro p e s m below meth c ls hx hb hml hr hlk hown hts hnm hB hl
  have hown : s.vm.findClass R_T = some m.cls := hown
  have hP := hB.1
  have hK := hB.2.1
  have hS : va_S A s.heap s.heap [] := va_S.rf
  have hl : lv_has ls 4 [(0, .ref (h 0)), (1, .int (x)), (2, .int (y))] := hl
  refine lv_aload_n hx hb d_T_letter_0 rfl (lv_at hl 0 rfl) ?_
  refine g_callVq (As := []) (rest := []) ⟨hx, hb, hml, hown, hts⟩ (C := R_T) (index := 80) (c_T_table l D h cA n tb A hn hn2 (d) ) (cwV 0 hts (gd_V m_290 m_292 m_13 m_30 m_293) rfl rfl rfl hd_T_table ⟨Nat.le_of_ble_eq_true rfl, Nat.le_of_ble_eq_true rfl⟩) cW_w cX_x hB hP hS (ci := 0) rfl (0) rfl rfl hl.1 rfl (Nat.le_of_ble_eq_true rfl) d_T_letter_1 ⟨Nat.zero_le _, Nat.zero_le _⟩ (fun r_ v_ H locs hw hP hS => ?_)
  obtain ⟨hw, hv⟩ := hw; have hv := hv.symm; subst hv
  rcases hw with ⟨j, hj, hsr, rfl⟩ | ⟨hsr, rfl⟩
  · have hHd := cHd_le hn hj
    have hAr := cAr_le hn hj
    refine lv_astore_n (lv' := [(3, .ref (h (2 + j))), (0, .ref (h 0)), (1, .int (x)), (2, .int (y))]) hx hb d_T_letter_4 rfl hl (by decide) rfl (fun ls hl => ?_)
    refine lv_aload_n hx hb d_T_letter_5 rfl (lv_at hl 0 rfl) ?_
    refine lv_ifnull hx hb d_T_letter_6 ?_
    refine lv_iload_n hx hb d_T_letter_9 rfl (lv_at hl 2 rfl) ?_
    refine g_callSi (As := [.int (x)]) (rest := []) ⟨hx, hb, hml, hown, hts⟩ (index := 143) (c_T_isEntry l D h cA n tb A hn hn2 (d) (x)) (cwS 1 hts (gd_S m_333 m_334 m_30 m_335) rfl rfl rfl hd_T_isEntry ⟨Nat.le_of_ble_eq_true rfl, Nat.le_of_ble_eq_true rfl⟩) cW_w cX_x hB hP hS rfl hl.1 rfl (Nat.le_of_ble_eq_true rfl) d_T_letter_10 ⟨Nat.zero_le _, Nat.zero_le _⟩ (fun r_ v_ H locs hw hP hS => ?_)
    obtain ⟨hw1, hw2⟩ := hw; have hw1 := hw1.symm; have hw2 := hw2.symm; subst hw1; subst hw2
    refine lv_if_eq (tgt := 23) hx hb d_T_letter_13 (by decide) (fun c_13 => ?_) (fun c_13 => ?_)
    · have c_13 := bI_0.mp c_13
      refine lv_iconst (v := nI 0) hx hb d_T_letter_23 rfl ?_
      refine lv_goto (tgt := 33) hx hb d_T_letter_24 (by decide) ?_
      exact g_zret (v := (nI (0))) hx hb hr (rfl) hlk cW_w cX_x hB hP hS (⟨by rw [leR, oS_s hsr, cI_f (q := inR x 8 ∧ inR y 36) (fun z => c_13 z.1)] <;> rfl, rfl⟩) d_T_letter_33
    · have c_13 := bI_1 c_13
      refine lv_iload_n hx hb d_T_letter_16 rfl (lv_at hl 3 rfl) ?_
      refine g_callSi (As := [.int (y)]) (rest := []) ⟨hx, hb, hml, hown, hts⟩ (index := 124) (c_T_isLetter l D h cA n tb A hn hn2 (d) (y)) (cwS 1 hts (gd_S m_341 m_342 m_30 m_343) rfl rfl rfl hd_T_isLetter ⟨Nat.le_of_ble_eq_true rfl, Nat.le_of_ble_eq_true rfl⟩) cW_w cX_x hB hP hS rfl hl.1 rfl (Nat.le_of_ble_eq_true rfl) d_T_letter_17 ⟨Nat.zero_le _, Nat.zero_le _⟩ (fun r_ v_ H locs hw hP hS => ?_)
      obtain ⟨hw1, hw2⟩ := hw; have hw1 := hw1.symm; have hw2 := hw2.symm; subst hw1; subst hw2
      refine lv_if_ne (tgt := 27) hx hb d_T_letter_20 (by decide) (fun c_20 => ?_) (fun c_20 => ?_)
      · have c_20 := bI_1 c_20
        obtain ⟨a, ha, rfl⟩ := inR_ex (by omega) c_13
        obtain ⟨b, hb2, rfl⟩ := inR_ex (by omega) c_20
        refine lv_aload_n hx hb d_T_letter_27 rfl (lv_at hl 0 rfl) ?_
        refine lv_iload_n hx hb d_T_letter_28 rfl (lv_at hl 2 rfl) ?_
        refine lv_iload_n hx hb d_T_letter_29 rfl (lv_at hl 3 rfl) ?_
        refine g_callVi (As := [.int (nI (a)), .int (nI (b))]) (rest := []) ⟨hx, hb, hml, hown, hts⟩ (C := R_C) (index := 149) (c_C_getLetter l D h cA n tb A hn hn2 (d) (j) hj (a) (b) (by omega) (by omega)) (cwV 2 hts (gd_V m_378 m_379 m_380 m_32 m_381) rfl rfl rfl hd_C_getLetter ⟨Nat.le_of_ble_eq_true rfl, Nat.le_of_ble_eq_true rfl⟩) cW_w cX_x hB hP hS (ci := 2) rfl ((2 + j)) (cW_C hj) rfl hl.1 rfl (Nat.le_of_ble_eq_true rfl) d_T_letter_30 ⟨Nat.zero_le _, Nat.zero_le _⟩ (fun r_ v_ H locs hw hP hS => ?_)
        obtain ⟨hw1, hw2⟩ := hw; have hw1 := hw1.symm; have hw2 := hw2.symm; subst hw1; subst hw2
        exact g_zret (v := (((num d (cAr n j + a * 128 + 56 + 2 * b) 2).toInt32.toUInt32 % 65536).toInt32)) hx hb hr (pk_nc _) hlk cW_w cX_x hB hP hS (⟨by rw [leR, oS_s hsr, cI_t ⟨c_13, c_20⟩, cl_nI (by omega), cl_nI (by omega)], rfl⟩) d_T_letter_33
      · have c_20 := bI_0.mp c_20
        refine lv_iconst (v := nI 0) hx hb d_T_letter_23 rfl ?_
        refine lv_goto (tgt := 33) hx hb d_T_letter_24 (by decide) ?_
        exact g_zret (v := (nI (0))) hx hb hr (rfl) hlk cW_w cX_x hB hP hS (⟨by rw [leR, oS_s hsr, cI_f (q := inR x 8 ∧ inR y 36) (fun z => c_20 z.2)] <;> rfl, rfl⟩) d_T_letter_33
  · refine lv_astore_nN (lv' := [(3, .null), (0, .ref (h 0)), (1, .int (x)), (2, .int (y))]) hx hb d_T_letter_4 rfl hl (by decide) rfl (fun ls hl => ?_)
    refine lv_aload_nN hx hb d_T_letter_5 rfl (lv_at hl 0 rfl) ?_
    refine lv_ifnullN (tgt := 23) hx hb d_T_letter_6 (by decide) ?_
    refine lv_iconst (v := nI 0) hx hb d_T_letter_23 rfl ?_
    refine lv_goto (tgt := 33) hx hb d_T_letter_24 (by decide) ?_
    exact g_zret (v := (nI (0))) hx hb hr (rfl) hlk cW_w cX_x hB hP hS (⟨(oS_n hsr).symm, rfl⟩) d_T_letter_33
abbrev w_T_sum : List Cond := .code y_T_sum b_T_sum 4 (some .int) :: ALL
abbrev rm_T_sum : Room := { frames := 3, cells := 0, slots := 0, locals := 70 }
theorem hd_T_sum : y_T_sum.cls = R_T ∧ y_T_sum.cls ≠ "java/lang/invoke/MethodHandle" ∧ y_T_sum.cls ≠ "java/lang/invoke/VarHandle" ∧ (parseMethodDescriptor y_T_sum.desc).map (fun d => d.parameters.length) = some 3 := by decide +kernel
set_option maxHeartbeats 4000000 in
set_option maxRecDepth 100000 in
theorem c_T_sum (l : Launch) (D : va_G) (h : Nat → Nat) (cA : ClassId) (n tb : Nat) (A : Nat → Prop) (hn : 12 ≤ n) (hn2 : n ≤ 24) (d : Nat → BitVec 8) (x y z : Int32) : Met l y_T_sum w_T_sum rm_T_sum (va_Pc [.ref (h 0), .int (x), .int (y), .int (z)] (cB D h cA n tb A d)) (va_Qi (fun r v => r = suR n d x y z ∧ v = d) (cB D h cA n tb A) A) 0 0 A := by
  refine g_ofW (cc := b_T_sum) (maxL := 4) (ret := (some .int)) (by decide) rfl (Nat.le_of_ble_eq_true rfl) ?_
  intro p e s m below meth c ls hx hb hml hr hlk hown hts hnm hB hl
  have hown : s.vm.findClass R_T = some m.cls := hown
  have hP := hB.1
  have hK := hB.2.1
  have hS : va_S A s.heap s.heap [] := va_S.rf
  have hl : lv_has ls 4 [(0, .ref (h 0)), (1, .int (x)), (2, .int (y)), (3, .int (z))] := hl
  refine lv_aload_n hx hb d_T_sum_0 rfl (lv_at hl 0 rfl) ?_
  refine lv_iload_n hx hb d_T_sum_1 rfl (lv_at hl 1 rfl) ?_
  refine g_callVi (As := [.int (x)]) (rest := []) ⟨hx, hb, hml, hown, hts⟩ (C := R_T) (index := 156) (c_T_isBlock l D h cA n tb A hn hn2 (d) (x)) (cwV 1 hts (gd_V m_111 m_113 m_1 m_30 m_114) rfl rfl rfl hd_T_isBlock ⟨Nat.le_of_ble_eq_true rfl, Nat.le_of_ble_eq_true rfl⟩) cW_w cX_x hB hP hS (ci := 0) rfl (0) rfl rfl hl.1 rfl (Nat.le_of_ble_eq_true rfl) d_T_sum_2 ⟨Nat.zero_le _, Nat.zero_le _⟩ (fun r_ v_ H locs hw hP hS => ?_)
  obtain ⟨hw1, hw2⟩ := hw; have hw1 := hw1.symm; have hw2 := hw2.symm; subst hw1; subst hw2
  refine lv_if_eq (tgt := 32) hx hb d_T_sum_5 (by decide) (fun c_5 => ?_) (fun c_5 => ?_)
  · have c_5 := bI_0.mp c_5
    refine lv_iconst (v := nI 0) hx hb d_T_sum_32 rfl ?_
    exact g_iret (v := (nI (0))) hx hb hr hlk cW_w cX_x hB hP hS (⟨(cI_f (fun w => c_5 w.1)).symm, rfl⟩) d_T_sum_33
  · have c_5 := bI_1 c_5
    refine lv_iload_n hx hb d_T_sum_8 rfl (lv_at hl 2 rfl) ?_
    refine lv_if_lt (tgt := 32) hx hb d_T_sum_9 (by decide) (fun c_9 => ?_) (fun c_9 => ?_)
    · refine lv_iconst (v := nI 0) hx hb d_T_sum_32 rfl ?_
      exact g_iret (v := (nI (0))) hx hb hr hlk cW_w cX_x hB hP hS (⟨(cI_f (fun w => w.2.1 c_9)).symm, rfl⟩) d_T_sum_33
    · refine lv_iload_n hx hb d_T_sum_12 rfl (lv_at hl 2 rfl) ?_
      refine lv_sipush (v := nI 512) hx hb d_T_sum_13 rfl ?_
      refine lv_icmp_gt (tgt := 32) hx hb d_T_sum_16 (by decide) (fun c_16 => ?_) (fun c_16 => ?_)
      · refine lv_iconst (v := nI 0) hx hb d_T_sum_32 rfl ?_
        exact g_iret (v := (nI (0))) hx hb hr hlk cW_w cX_x hB hP hS (⟨(cI_f (fun w => w.2.2.1 c_16)).symm, rfl⟩) d_T_sum_33
      · refine lv_iload_n hx hb d_T_sum_19 rfl (lv_at hl 3 rfl) ?_
        refine lv_if_lt (tgt := 32) hx hb d_T_sum_20 (by decide) (fun c_20 => ?_) (fun c_20 => ?_)
        · refine lv_iconst (v := nI 0) hx hb d_T_sum_32 rfl ?_
          exact g_iret (v := (nI (0))) hx hb hr hlk cW_w cX_x hB hP hS (⟨(cI_f (fun w => w.2.2.2.1 c_20)).symm, rfl⟩) d_T_sum_33
        · refine lv_iload_n hx hb d_T_sum_23 rfl (lv_at hl 3 rfl) ?_
          refine lv_sipush (v := nI 512) hx hb d_T_sum_24 rfl ?_
          refine lv_iload_n hx hb d_T_sum_27 rfl (lv_at hl 2 rfl) ?_
          refine lv_isub hx hb d_T_sum_28 ?_
          refine lv_icmp_le (tgt := 34) hx hb d_T_sum_29 (by decide) (fun c_29 => ?_) (fun c_29 => ?_)
          · obtain ⟨a, ha, rfl⟩ := inR_ex (by omega) c_5
            obtain ⟨b, hb2, rfl⟩ := nI_of c_9
            obtain ⟨g, hg, rfl⟩ := nI_of c_20
            have h1 : b ≤ 512 := Nat.not_lt.mp (fun z => c_16 (nI_lt z (by omega)))
            have h2 : g ≤ 512 - b := by have q := c_29; rw [pk_sub h1] at q; exact (nI_leI (by omega) (by omega)).mp q
            refine lv_aload_n hx hb d_T_sum_34 rfl (lv_at hl 0 rfl) ?_
            refine va_get (D := D) (ci := 0) (v := .ref (h 1)) (C := R_T) (T := F_T) (N := 4) hx hb hts (fun w h => .tail _ (fi_T w h)) hown hK hP 0 rfl rfl 1 (by decide) (hts _ (.tail _ m_87)) (fun _ h9 => h9) rfl d_T_sum_35 ?_
            refine lv_iload_n hx hb d_T_sum_38 rfl (lv_at hl 1 rfl) ?_
            refine lv_sipush (v := nI 512) hx hb d_T_sum_39 rfl ?_
            refine lv_imulN hx hb d_T_sum_42 ?_
            refine lv_iload_n hx hb d_T_sum_43 rfl (lv_at hl 2 rfl) ?_
            refine lv_iaddN hx hb d_T_sum_44 ?_
            refine lv_iload_n hx hb d_T_sum_45 rfl (lv_at hl 3 rfl) ?_
            refine g_callVi (As := [.int (nI ((a * 512) + b)), .int (nI (g))]) (rest := []) ⟨hx, hb, hml, hown, hts⟩ (C := R_B) (index := 159) (c_B_sumOf l D h cA n tb A hn hn2 (d) ((a * 512) + b) (g) (by omega)) (cwV 2 hts (gd_V m_394 m_199 m_200 m_31 m_201) rfl rfl rfl hd_B_sumOf ⟨Nat.le_of_ble_eq_true rfl, Nat.le_of_ble_eq_true rfl⟩) cW_w cX_x hB hP hS (ci := 1) rfl (1) rfl rfl hl.1 rfl (Nat.le_of_ble_eq_true rfl) d_T_sum_46 ⟨Nat.zero_le _, Nat.zero_le _⟩ (fun r_ v_ H locs hw hP hS => ?_)
            obtain ⟨hw1, hw2⟩ := hw; have hw1 := hw1.symm; have hw2 := hw2.symm; subst hw1; subst hw2
            exact g_iret (v := (smO d ((a * 512) + b) g)) hx hb hr hlk cW_w cX_x hB hP hS (⟨by rw [suR, cI_t ⟨c_5, c_9, c_16, c_20, c_29⟩, cl_nI (by omega), cl_nI (by omega), cl_nI (by omega)], rfl⟩) d_T_sum_49
          · refine lv_iconst (v := nI 0) hx hb d_T_sum_32 rfl ?_
            exact g_iret (v := (nI (0))) hx hb hr hlk cW_w cX_x hB hP hS (⟨(cI_f (fun w => c_29 w.2.2.2.2)).symm, rfl⟩) d_T_sum_33
abbrev w_T_make : List Cond := .code y_T_make b_T_make 11 (some .int) :: ALL
abbrev rm_T_make : Room := { frames := 7, cells := 0, slots := 0, locals := 159 }
theorem hd_T_make : y_T_make.cls = R_T ∧ y_T_make.cls ≠ "java/lang/invoke/MethodHandle" ∧ y_T_make.cls ≠ "java/lang/invoke/VarHandle" ∧ (parseMethodDescriptor y_T_make.desc).map (fun d => d.parameters.length) = some 5 := by decide +kernel
set_option maxHeartbeats 4000000 in
set_option maxRecDepth 100000 in
theorem c_T_make (l : Launch) (D : va_G) (h : Nat → Nat) (cA : ClassId) (n tb : Nat) (A : Nat → Prop) (hn : 12 ≤ n) (hn2 : n ≤ 24) (d : Nat → BitVec 8) (x y : Int32) (t k a : Int64) : Met l y_T_make w_T_make rm_T_make (va_Pc [.ref (h 0), .int (x), .int (y), .long (t), .long (k), .long (a)] (cB D h cA n tb A d)) (va_Qi (fun r v => (r, v) = maR n d x y t k a) (cB D h cA n tb A) A) 0 0 A := by
  refine g_ofW (cc := b_T_make) (maxL := 11) (ret := (some .int)) (by decide) rfl (Nat.le_of_ble_eq_true rfl) ?_
  intro p e s m below meth c ls hx hb hml hr hlk hown hts hnm hB hl
  have hown : s.vm.findClass R_T = some m.cls := hown
  have hP := hB.1
  have hK := hB.2.1
  have hS : va_S A s.heap s.heap [] := va_S.rf
  have hl : lv_has ls 11 [(0, .ref (h 0)), (1, .int (x)), (2, .int (y)), (3, .long (t)), (5, .long (k)), (7, .long (a))] := hl
  refine lv_aload_n hx hb d_T_make_0 rfl (lv_at hl 0 rfl) ?_
  refine g_callVq (As := []) (rest := []) ⟨hx, hb, hml, hown, hts⟩ (C := R_T) (index := 80) (c_T_table l D h cA n tb A hn hn2 (d) ) (cwV 0 hts (gd_V m_290 m_292 m_13 m_30 m_293) rfl rfl rfl hd_T_table ⟨Nat.le_of_ble_eq_true rfl, Nat.le_of_ble_eq_true rfl⟩) cW_w cX_x hB hP hS (ci := 0) rfl (0) rfl rfl hl.1 rfl (Nat.le_of_ble_eq_true rfl) d_T_make_1 ⟨Nat.zero_le _, Nat.zero_le _⟩ (fun r_ v_ H locs hw hP hS => ?_)
  obtain ⟨hw, hv⟩ := hw; have hv := hv.symm; subst hv
  rcases hw with ⟨j, hj, hsr, rfl⟩ | ⟨hsr, rfl⟩
  · have hHd := cHd_le hn hj
    have hAr := cAr_le hn hj
    refine lv_astore (lv' := [(9, .ref (h (2 + j))), (0, .ref (h 0)), (1, .int (x)), (2, .int (y)), (3, .long (t)), (5, .long (k)), (7, .long (a))]) hx hb d_T_make_4 hl (by decide) rfl (fun ls hl => ?_)
    refine lv_aload hx hb d_T_make_6 (lv_at hl 0 rfl) ?_
    refine lv_ifnonnull (tgt := 13) hx hb d_T_make_8 (by decide) ?_
    refine lv_lload_n hx hb d_T_make_13 rfl (lv_at hl 4 rfl) ?_
    refine lv_lconst (v := 0) hx hb d_T_make_14 rfl ?_
    refine W.lcmp hx hb d_T_make_15 ?_
    refine lv_if_ne (tgt := 22) hx hb d_T_make_16 (by decide) (fun c_16 => ?_) (fun c_16 => ?_)
    · have c_16 := fun z => c_16 ((lg_cmp_eq _ _).mpr z)
      refine lv_aload hx hb d_T_make_22 (lv_at hl 0 rfl) ?_
      refine lv_iload_n hx hb d_T_make_24 rfl (lv_at hl 2 rfl) ?_
      refine lv_i2l hx hb d_T_make_25 rfl ?_
      refine lv_iload_n hx hb d_T_make_26 rfl (lv_at hl 3 rfl) ?_
      refine lv_i2l hx hb d_T_make_27 rfl ?_
      refine g_callVi (As := [.long ((x).toInt64), .long ((y).toInt64)]) (rest := []) ⟨hx, hb, hml, hown, hts⟩ (C := R_C) (index := 87) (c_C_isUsable l D h cA n tb A hn hn2 (d) (j) hj ((x).toInt64) ((y).toInt64)) (cwV 2 hts (gd_V m_298 m_271 m_272 m_32 m_273) rfl rfl rfl hd_C_isUsable ⟨Nat.le_of_ble_eq_true rfl, Nat.le_of_ble_eq_true rfl⟩) cW_w cX_x hB hP hS (ci := 2) rfl ((2 + j)) (cW_C hj) rfl hl.1 rfl (Nat.le_of_ble_eq_true rfl) d_T_make_28 ⟨Nat.zero_le _, Nat.zero_le _⟩ (fun r_ v_ H locs hw hP hS => ?_)
      obtain ⟨hw1, hw2⟩ := hw; have hw1 := hw1.symm; have hw2 := hw2.symm; subst hw1; subst hw2
      refine lv_if_ne (tgt := 37) hx hb d_T_make_31 (by decide) (fun c_31 => ?_) (fun c_31 => ?_)
      · have c_31 := bI_1 c_31
        refine lv_aload hx hb d_T_make_37 (lv_at hl 0 rfl) ?_
        refine lv_iload_n hx hb d_T_make_39 rfl (lv_at hl 2 rfl) ?_
        refine lv_i2l hx hb d_T_make_40 rfl ?_
        refine lv_iload_n hx hb d_T_make_41 rfl (lv_at hl 3 rfl) ?_
        refine lv_i2l hx hb d_T_make_42 rfl ?_
        refine lv_iconst (v := -1) hx hb d_T_make_43 rfl ?_
        refine g_callVi (As := [.long ((x).toInt64), .long ((y).toInt64), .int (-1)]) (rest := []) ⟨hx, hb, hml, hown, hts⟩ (C := R_C) (index := 91) (c_C_isTaken l D h cA n tb A hn hn2 (d) (j) hj ((x).toInt64) ((y).toInt64) (-1)) (cwV 3 hts (gd_V m_299 m_275 m_276 m_32 m_277) rfl rfl rfl hd_C_isTaken ⟨Nat.le_of_ble_eq_true rfl, Nat.le_of_ble_eq_true rfl⟩) cW_w cX_x hB hP hS (ci := 2) rfl ((2 + j)) (cW_C hj) rfl hl.1 rfl (Nat.le_of_ble_eq_true rfl) d_T_make_44 ⟨Nat.zero_le _, Nat.zero_le _⟩ (fun r_ v_ H locs hw hP hS => ?_)
        obtain ⟨hw1, hw2⟩ := hw; have hw1 := hw1.symm; have hw2 := hw2.symm; subst hw1; subst hw2
        refine lv_if_eq (tgt := 53) hx hb d_T_make_47 (by decide) (fun c_47 => ?_) (fun c_47 => ?_)
        · have c_47 := bI_0.mp c_47
          refine lv_aload hx hb d_T_make_53 (lv_at hl 0 rfl) ?_
          refine lv_lload hx hb d_T_make_55 (lv_at hl 5 rfl) ?_
          refine lv_lload hx hb d_T_make_57 (lv_at hl 5 rfl) ?_
          refine g_callSl (As := [.long (k)]) (rest := [.long (k), .ref (h (2 + j))]) ⟨hx, hb, hml, hown, hts⟩ (index := 95) (c_T_guidTail l D h cA n tb A hn hn2 (d) (k)) (cwS 1 hts (gd_S m_300 m_153 m_30 m_154) rfl rfl rfl hd_T_guidTail ⟨Nat.le_of_ble_eq_true rfl, Nat.le_of_ble_eq_true rfl⟩) cW_w cX_x hB hP hS rfl hl.1 rfl (Nat.le_of_ble_eq_true rfl) d_T_make_59 ⟨Nat.zero_le _, Nat.zero_le _⟩ (fun r_ v_ H locs hw hP hS => ?_)
          obtain ⟨hw1, hw2⟩ := hw; have hw1 := hw1.symm; have hw2 := hw2.symm; subst hw1; subst hw2
          refine g_callVi (As := [.long (k), .long (gT k)]) (rest := []) ⟨hx, hb, hml, hown, hts⟩ (C := R_C) (index := 99) (c_C_isMarkUsed l D h cA n tb A hn hn2 (d) (j) hj (k) (gT k)) (cwV 2 hts (gd_V m_301 m_302 m_303 m_32 m_304) rfl rfl rfl hd_C_isMarkUsed ⟨Nat.le_of_ble_eq_true rfl, Nat.le_of_ble_eq_true rfl⟩) cW_w cX_x hB hP hS (ci := 2) rfl ((2 + j)) (cW_C hj) rfl hl.1 rfl (Nat.le_of_ble_eq_true rfl) d_T_make_62 ⟨Nat.zero_le _, Nat.zero_le _⟩ (fun r_ v_ H locs hw hP hS => ?_)
          obtain ⟨hw1, hw2⟩ := hw; have hw1 := hw1.symm; have hw2 := hw2.symm; subst hw1; subst hw2
          refine lv_if_eq (tgt := 71) hx hb d_T_make_65 (by decide) (fun c_65 => ?_) (fun c_65 => ?_)
          · have c_65 := bI_0.mp c_65
            refine lv_aload hx hb d_T_make_71 (lv_at hl 0 rfl) ?_
            refine g_callVi (As := []) (rest := []) ⟨hx, hb, hml, hown, hts⟩ (C := R_C) (index := 102) (c_C_lowestFree l D h cA n tb A hn hn2 (d) (j) hj) (cwV 0 hts (gd_V m_305 m_306 m_307 m_32 m_308) rfl rfl rfl hd_C_lowestFree ⟨Nat.le_of_ble_eq_true rfl, Nat.le_of_ble_eq_true rfl⟩) cW_w cX_x hB hP hS (ci := 2) rfl ((2 + j)) (cW_C hj) rfl hl.1 rfl (Nat.le_of_ble_eq_true rfl) d_T_make_73 ⟨Nat.zero_le _, Nat.zero_le _⟩ (fun r_ v_ H locs hw hP hS => ?_)
            obtain ⟨hw1, hw2⟩ := hw; have hw1 := hw1.symm; have hw2 := hw2.symm; subst hw1; subst hw2
            refine lv_istore (lv' := [(10, .int (loR (frE d (cAr n j)) 8 0)), (9, .ref (h (2 + j))), (0, .ref (h 0)), (1, .int (x)), (2, .int (y)), (3, .long (t)), (5, .long (k)), (7, .long (a))]) hx hb d_T_make_76 hl (by decide) rfl (fun ls hl => ?_)
            refine lv_iload hx hb d_T_make_78 (lv_at hl 0 rfl) ?_
            refine lv_iconst (v := -1) hx hb d_T_make_80 rfl ?_
            refine lv_icmp_ne (tgt := 87) hx hb d_T_make_81 (by decide) (fun c_81 => ?_) (fun c_81 => ?_)
            · obtain ⟨i, hi, hlo⟩ := loR_ex c_81
              rw [hlo] at hl
              refine lv_aload hx hb d_T_make_87 (lv_at hl 1 rfl) ?_
              refine lv_iload hx hb d_T_make_89 (lv_at hl 0 rfl) ?_
              refine g_callVv (As := [.int (nI (i))]) (rest := []) ⟨hx, hb, hml, hown, hts⟩ (C := R_C) (index := 105) (c_C_clearEntry l D h cA n tb A hn hn2 (d) (j) hj (i) (by omega)) (cwV 1 hts (gd_V m_309 m_310 m_311 m_32 m_312) rfl rfl rfl hd_C_clearEntry ⟨Nat.le_of_ble_eq_true rfl, Nat.le_of_ble_eq_true rfl⟩) cW_w cX_x hB hP hS (ci := 2) rfl ((2 + j)) (cW_C hj) rfl hl.1 rfl (Nat.le_of_ble_eq_true rfl) d_T_make_91 ⟨Nat.zero_le _, Nat.zero_le _⟩ (fun v_ H locs hw hP hS => ?_)
              have hw := hw.symm; subst hw
              refine lv_aload hx hb d_T_make_94 (lv_at hl 1 rfl) ?_
              refine lv_iload hx hb d_T_make_96 (lv_at hl 0 rfl) ?_
              refine lv_iconst (v := nI 0) hx hb d_T_make_98 rfl ?_
              refine lv_lload_n hx hb d_T_make_99 rfl (lv_at hl 5 rfl) ?_
              refine g_callVv (As := [.int (nI (i)), .int (nI (0)), .long (t)]) (rest := []) ⟨hx, hb, hml, hown, hts⟩ (C := R_C) (index := 110) (c_C_setGuid l D h cA n tb A hn hn2 (clr d (cAr n j + i * 128) 128) (j) hj (i) (0) (t) (by omega) (by omega)) (cwV 3 hts (gd_V m_313 m_314 m_315 m_32 m_316) rfl rfl rfl hd_C_setGuid ⟨Nat.le_of_ble_eq_true rfl, Nat.le_of_ble_eq_true rfl⟩) cW_w cX_x hB hP hS (ci := 2) rfl ((2 + j)) (cW_C hj) rfl hl.1 rfl (Nat.le_of_ble_eq_true rfl) d_T_make_100 ⟨Nat.zero_le _, Nat.zero_le _⟩ (fun v_ H locs hw hP hS => ?_)
              have hw := hw.symm; subst hw
              refine lv_aload hx hb d_T_make_103 (lv_at hl 1 rfl) ?_
              refine lv_iload hx hb d_T_make_105 (lv_at hl 0 rfl) ?_
              refine lv_bipush (v := nI 16) hx hb d_T_make_107 rfl ?_
              refine lv_lload hx hb d_T_make_109 (lv_at hl 6 rfl) ?_
              refine g_callVv (As := [.int (nI (i)), .int (nI (16)), .long (k)]) (rest := []) ⟨hx, hb, hml, hown, hts⟩ (C := R_C) (index := 110) (c_C_setGuid l D h cA n tb A hn hn2 (guid (clr d (cAr n j + i * 128) 128) (cAr n j + i * 128 + 0) t) (j) hj (i) (16) (k) (by omega) (by omega)) (cwV 3 hts (gd_V m_313 m_314 m_315 m_32 m_316) rfl rfl rfl hd_C_setGuid ⟨Nat.le_of_ble_eq_true rfl, Nat.le_of_ble_eq_true rfl⟩) cW_w cX_x hB hP hS (ci := 2) rfl ((2 + j)) (cW_C hj) rfl hl.1 rfl (Nat.le_of_ble_eq_true rfl) d_T_make_111 ⟨Nat.zero_le _, Nat.zero_le _⟩ (fun v_ H locs hw hP hS => ?_)
              have hw := hw.symm; subst hw
              refine lv_aload hx hb d_T_make_114 (lv_at hl 1 rfl) ?_
              refine lv_iload hx hb d_T_make_116 (lv_at hl 0 rfl) ?_
              refine lv_iload_n hx hb d_T_make_118 rfl (lv_at hl 3 rfl) ?_
              refine lv_iload_n hx hb d_T_make_119 rfl (lv_at hl 4 rfl) ?_
              refine g_callVv (As := [.int (nI (i)), .int (x), .int (y)]) (rest := []) ⟨hx, hb, hml, hown, hts⟩ (C := R_C) (index := 113) (c_C_setRange l D h cA n tb A hn hn2 (guid (guid (clr d (cAr n j + i * 128) 128) (cAr n j + i * 128 + 0) t) (cAr n j + i * 128 + 16) k) (j) hj (i) (x) (y) (by omega)) (cwV 3 hts (gd_V m_321 m_322 m_323 m_32 m_324) rfl rfl rfl hd_C_setRange ⟨Nat.le_of_ble_eq_true rfl, Nat.le_of_ble_eq_true rfl⟩) cW_w cX_x hB hP hS (ci := 2) rfl ((2 + j)) (cW_C hj) rfl hl.1 rfl (Nat.le_of_ble_eq_true rfl) d_T_make_120 ⟨Nat.zero_le _, Nat.zero_le _⟩ (fun v_ H locs hw hP hS => ?_)
              have hw := hw.symm; subst hw
              refine lv_aload hx hb d_T_make_123 (lv_at hl 1 rfl) ?_
              refine lv_iload hx hb d_T_make_125 (lv_at hl 0 rfl) ?_
              refine lv_bipush (v := nI 48) hx hb d_T_make_127 rfl ?_
              refine lv_lload hx hb d_T_make_129 (lv_at hl 7 rfl) ?_
              refine g_callVv (As := [.int (nI (i)), .int (nI (48)), .long (a)]) (rest := []) ⟨hx, hb, hml, hown, hts⟩ (C := R_C) (index := 117) (c_C_setLong l D h cA n tb A hn hn2 (setN (setN (guid (guid (clr d (cAr n j + i * 128) 128) (cAr n j + i * 128 + 0) t) (cAr n j + i * 128 + 16) k) (cAr n j + i * 128 + 32) 8 x.toInt64) (cAr n j + i * 128 + 40) 8 y.toInt64) (j) hj (i) (48) (a) (by omega) (by omega)) (cwV 3 hts (gd_V m_325 m_318 m_319 m_32 m_320) rfl rfl rfl hd_C_setLong ⟨Nat.le_of_ble_eq_true rfl, Nat.le_of_ble_eq_true rfl⟩) cW_w cX_x hB hP hS (ci := 2) rfl ((2 + j)) (cW_C hj) rfl hl.1 rfl (Nat.le_of_ble_eq_true rfl) d_T_make_131 ⟨Nat.zero_le _, Nat.zero_le _⟩ (fun v_ H locs hw hP hS => ?_)
              have hw := hw.symm; subst hw
              refine lv_aload_n hx hb d_T_make_134 rfl (lv_at hl 2 rfl) ?_
              refine lv_aload hx hb d_T_make_135 (lv_at hl 1 rfl) ?_
              refine g_callVv (As := [.ref (h (2 + j))]) (rest := []) ⟨hx, hb, hml, hown, hts⟩ (C := R_T) (index := 56) (c_T_writeTable l D h cA n tb A hn hn2 (setN (setN (setN (guid (guid (clr d (cAr n j + i * 128) 128) (cAr n j + i * 128 + 0) t) (cAr n j + i * 128 + 16) k) (cAr n j + i * 128 + 32) 8 x.toInt64) (cAr n j + i * 128 + 40) 8 y.toInt64) (cAr n j + i * 128 + 48) 8 a) (j) hj) (cwV 1 hts (gd_V m_157 m_159 m_3 m_30 m_160) rfl rfl rfl hd_T_writeTable ⟨Nat.le_of_ble_eq_true rfl, Nat.le_of_ble_eq_true rfl⟩) cW_w cX_x hB hP hS (ci := 0) rfl (0) rfl rfl hl.1 rfl (Nat.le_of_ble_eq_true rfl) d_T_make_137 ⟨Nat.zero_le _, Nat.zero_le _⟩ (fun v_ H locs hw hP hS => ?_)
              have hw := hw.symm; subst hw
              refine lv_iload hx hb d_T_make_140 (lv_at hl 0 rfl) ?_
              exact g_iret (v := (nI (i))) hx hb hr hlk cW_w cX_x hB hP hS (by rw [maR, oS_s hsr, cI_f c_16, cI_t c_31, cI_f c_47, cI_f c_65, cI_f c_81, hlo, cl_nI (by omega)] <;> rfl) d_T_make_142
            · refine lv_bipush (v := -6) hx hb d_T_make_84 rfl ?_
              exact g_iret (v := (-6)) hx hb hr hlk cW_w cX_x hB hP hS (by rw [maR, oS_s hsr, cI_f c_16, cI_t c_31, cI_f c_47, cI_f c_65, cI_t c_81] <;> rfl) d_T_make_86
          · have c_65 := bI_1 c_65
            refine lv_bipush (v := -5) hx hb d_T_make_68 rfl ?_
            exact g_iret (v := (-5)) hx hb hr hlk cW_w cX_x hB hP hS (by rw [maR, oS_s hsr, cI_f c_16, cI_t c_31, cI_f c_47, cI_t c_65] <;> rfl) d_T_make_70
        · have c_47 := bI_1 c_47
          refine lv_bipush (v := -4) hx hb d_T_make_50 rfl ?_
          exact g_iret (v := (-4)) hx hb hr hlk cW_w cX_x hB hP hS (by rw [maR, oS_s hsr, cI_f c_16, cI_t c_31, cI_t c_47] <;> rfl) d_T_make_52
      · have c_31 := bI_0.mp c_31
        refine lv_bipush (v := -3) hx hb d_T_make_34 rfl ?_
        exact g_iret (v := (-3)) hx hb hr hlk cW_w cX_x hB hP hS (by rw [maR, oS_s hsr, cI_f c_16, cI_f c_31] <;> rfl) d_T_make_36
    · have c_16 := (lg_cmp_eq _ _).mp c_16
      refine lv_bipush (v := -2) hx hb d_T_make_19 rfl ?_
      exact g_iret (v := (-2)) hx hb hr hlk cW_w cX_x hB hP hS (by rw [maR, oS_s hsr, cI_t c_16] <;> rfl) d_T_make_21
  · refine lv_astoreN (lv' := [(9, .null), (0, .ref (h 0)), (1, .int (x)), (2, .int (y)), (3, .long (t)), (5, .long (k)), (7, .long (a))]) hx hb d_T_make_4 hl (by decide) rfl (fun ls hl => ?_)
    refine lv_aloadN hx hb d_T_make_6 (lv_at hl 0 rfl) ?_
    refine lv_ifnonnullN hx hb d_T_make_8 ?_
    refine lv_iconst (v := -1) hx hb d_T_make_11 rfl ?_
    exact g_iret (v := (-1)) hx hb hr hlk cW_w cX_x hB hP hS ((oS_n hsr).symm) d_T_make_12
abbrev w_T_repair : List Cond := .code y_T_repair b_T_repair 4 (some .int) :: ALL
abbrev rm_T_repair : Room := { frames := 7, cells := 0, slots := 0, locals := 159 }
theorem hd_T_repair : y_T_repair.cls = R_T ∧ y_T_repair.cls ≠ "java/lang/invoke/MethodHandle" ∧ y_T_repair.cls ≠ "java/lang/invoke/VarHandle" ∧ (parseMethodDescriptor y_T_repair.desc).map (fun d => d.parameters.length) = some 0 := by decide +kernel
set_option maxHeartbeats 4000000 in
set_option maxRecDepth 100000 in
theorem c_T_repair (l : Launch) (D : va_G) (h : Nat → Nat) (cA : ClassId) (n tb : Nat) (A : Nat → Prop) (hn : 12 ≤ n) (hn2 : n ≤ 24) (d : Nat → BitVec 8)  : Met l y_T_repair w_T_repair rm_T_repair (va_Pc [.ref (h 0)] (cB D h cA n tb A d)) (va_Qi (fun r v => (r, v) = reR n d) (cB D h cA n tb A) A) 0 0 A := by
  refine g_ofW (cc := b_T_repair) (maxL := 4) (ret := (some .int)) (by decide) rfl (Nat.le_of_ble_eq_true rfl) ?_
  intro p e s m below meth c ls hx hb hml hr hlk hown hts hnm hB hl
  have hown : s.vm.findClass R_T = some m.cls := hown
  have hP := hB.1
  have hK := hB.2.1
  have hS : va_S A s.heap s.heap [] := va_S.rf
  have hl : lv_has ls 4 [(0, .ref (h 0))] := hl
  have hHd0 := cHd_le (j := 0) hn (by decide)
  have hHd1 := cHd_le (j := 1) hn (by decide)
  have hAr0 := cAr_le (j := 0) hn (by decide)
  have hAr1 := cAr_le (j := 1) hn (by decide)
  refine lv_aload_n hx hb d_T_repair_0 rfl (lv_at hl 0 rfl) ?_
  refine va_get (D := D) (ci := 0) (v := .ref (h (2 + 0))) (C := R_T) (T := F_T) (N := 4) hx hb hts (fun w h => .tail _ (fi_T w h)) hown hK hP 0 rfl rfl 2 (by decide) (hts _ (.tail _ m_88)) (fun _ h9 => h9) rfl d_T_repair_1 ?_
  refine g_callVi (As := []) (rest := []) ⟨hx, hb, hml, hown, hts⟩ (C := R_C) (index := 76) (c_C_firstFault l D h cA n tb A hn hn2 (d) (0) (by decide)) (cwV 0 hts (gd_V m_241 m_242 m_243 m_32 m_244) rfl rfl rfl hd_C_firstFault ⟨Nat.le_of_ble_eq_true rfl, Nat.le_of_ble_eq_true rfl⟩) cW_w cX_x hB hP hS (ci := 2) rfl ((2 + 0)) (cW_C (by decide)) rfl hl.1 rfl (Nat.le_of_ble_eq_true rfl) d_T_repair_4 ⟨Nat.zero_le _, Nat.zero_le _⟩ (fun r_ v_ H locs hw hP hS => ?_)
  obtain ⟨hw1, hw2⟩ := hw; have hw1 := hw1.symm; have hw2 := hw2.symm; subst hw1; subst hw2
  refine lv_if_ne (tgt := 14) hx hb d_T_repair_7 (by decide) (fun c_7 => ?_) (fun c_7 => ?_)
  · refine lv_iconst (v := nI 0) hx hb d_T_repair_14 rfl ?_
    refine lv_istore_n (lv' := [(1, .int (nI (0))), (0, .ref (h 0))]) hx hb d_T_repair_15 rfl hl (by decide) rfl (fun ls hl => ?_)
    refine lv_aload_n hx hb d_T_repair_16 rfl (lv_at hl 1 rfl) ?_
    refine va_get (D := D) (ci := 0) (v := .ref (h (2 + 1))) (C := R_T) (T := F_T) (N := 4) hx hb hts (fun w h => .tail _ (fi_T w h)) hown hK hP 0 rfl rfl 3 (by decide) (hts _ (.tail _ m_89)) (fun _ h9 => h9) rfl d_T_repair_17 ?_
    refine g_callVi (As := []) (rest := []) ⟨hx, hb, hml, hown, hts⟩ (C := R_C) (index := 76) (c_C_firstFault l D h cA n tb A hn hn2 (d) (1) (by decide)) (cwV 0 hts (gd_V m_241 m_242 m_243 m_32 m_244) rfl rfl rfl hd_C_firstFault ⟨Nat.le_of_ble_eq_true rfl, Nat.le_of_ble_eq_true rfl⟩) cW_w cX_x hB hP hS (ci := 2) rfl ((2 + 1)) (cW_C (by decide)) rfl hl.1 rfl (Nat.le_of_ble_eq_true rfl) d_T_repair_20 ⟨Nat.zero_le _, Nat.zero_le _⟩ (fun r_ v_ H locs hw hP hS => ?_)
    obtain ⟨hw1, hw2⟩ := hw; have hw1 := hw1.symm; have hw2 := hw2.symm; subst hw1; subst hw2
    refine lv_if_ne (tgt := 30) hx hb d_T_repair_23 (by decide) (fun c_23 => ?_) (fun c_23 => ?_)
    · refine lv_iconst (v := nI 0) hx hb d_T_repair_30 rfl ?_
      refine lv_istore_n (lv' := [(2, .int (nI (0))), (1, .int (nI (0))), (0, .ref (h 0))]) hx hb d_T_repair_31 rfl hl (by decide) rfl (fun ls hl => ?_)
      refine lv_iload_n hx hb d_T_repair_32 rfl (lv_at hl 1 rfl) ?_
      refine lv_if_ne (tgt := 42) hx hb d_T_repair_33 (by decide) (fun c9 => absurd (by decide) c9) (fun _ => ?_)
      refine lv_iload_n hx hb d_T_repair_36 rfl (lv_at hl 0 rfl) ?_
      refine lv_if_ne (tgt := 42) hx hb d_T_repair_37 (by decide) (fun c9 => absurd (by decide) c9) (fun _ => ?_)
      refine lv_iconst (v := -1) hx hb d_T_repair_40 rfl ?_
      exact g_iret (v := (-1)) hx hb hr hlk cW_w cX_x hB hP hS ((oS_n ((cI_f c_7).trans (cI_f c_23))).symm) d_T_repair_41
    · refine lv_iconst (v := nI 1) hx hb d_T_repair_26 rfl ?_
      refine lv_goto (tgt := 31) hx hb d_T_repair_27 (by decide) ?_
      refine lv_istore_n (lv' := [(2, .int (nI (1))), (1, .int (nI (0))), (0, .ref (h 0))]) hx hb d_T_repair_31 rfl hl (by decide) rfl (fun ls hl => ?_)
      refine lv_iload_n hx hb d_T_repair_32 rfl (lv_at hl 1 rfl) ?_
      refine lv_if_ne (tgt := 42) hx hb d_T_repair_33 (by decide) (fun c9 => absurd (by decide) c9) (fun _ => ?_)
      refine lv_iload_n hx hb d_T_repair_36 rfl (lv_at hl 0 rfl) ?_
      refine lv_if_ne (tgt := 42) hx hb d_T_repair_37 (by decide) (fun _ => ?_) (fun c9 => absurd c9 (by decide))
      refine lv_iload_n hx hb d_T_repair_42 rfl (lv_at hl 1 rfl) ?_
      refine lv_if_eq (tgt := 50) hx hb d_T_repair_43 (by decide) (fun _ => ?_) (fun c9 => absurd (by decide) c9)
      refine lv_iconst (v := nI 2) hx hb d_T_repair_50 rfl ?_
      refine lv_iload_n hx hb d_T_repair_51 rfl (lv_at hl 0 rfl) ?_
      refine lv_if_eq (tgt := 59) hx hb d_T_repair_52 (by decide) (fun c9 => absurd c9 (by decide)) (fun _ => ?_)
      refine lv_iconst (v := nI 0) hx hb d_T_repair_55 rfl ?_
      refine lv_goto (tgt := 60) hx hb d_T_repair_56 (by decide) ?_
      refine lv_iaddN hx hb d_T_repair_60 ?_
      refine lv_istore_n (lv' := [(3, .int (nI (2 + 0))), (2, .int (nI (1))), (1, .int (nI (0))), (0, .ref (h 0))]) hx hb d_T_repair_61 rfl hl (by decide) rfl (fun ls hl => ?_)
      refine lv_iload_n hx hb d_T_repair_62 rfl (lv_at hl 0 rfl) ?_
      refine lv_if_ne (tgt := 83) hx hb d_T_repair_63 (by decide) (fun _ => ?_) (fun c9 => absurd c9 (by decide))
      refine lv_iload_n hx hb d_T_repair_83 rfl (lv_at hl 0 rfl) ?_
      refine lv_if_eq (tgt := 106) hx hb d_T_repair_84 (by decide) (fun c9 => absurd c9 (by decide)) (fun _ => ?_)
      refine lv_aload_n hx hb d_T_repair_87 rfl (lv_at hl 3 rfl) ?_
      refine lv_iload_n hx hb d_T_repair_88 rfl (lv_at hl 2 rfl) ?_
      refine lv_if_eq (tgt := 99) hx hb d_T_repair_89 (by decide) (fun _ => ?_) (fun c9 => absurd (by decide) c9)
      refine lv_aload_n hx hb d_T_repair_99 rfl (lv_at hl 3 rfl) ?_
      refine va_get (D := D) (ci := 0) (v := .ref (h (2 + 1))) (C := R_T) (T := F_T) (N := 4) hx hb hts (fun w h => .tail _ (fi_T w h)) hown hK hP 0 rfl rfl 3 (by decide) (hts _ (.tail _ m_89)) (fun _ h9 => h9) rfl d_T_repair_100 ?_
      refine g_callVv (As := [.ref (h (2 + 1))]) (rest := []) ⟨hx, hb, hml, hown, hts⟩ (C := R_T) (index := 56) (c_T_writeTable l D h cA n tb A hn hn2 (d) (1) (by decide)) (cwV 1 hts (gd_V m_157 m_159 m_3 m_30 m_160) rfl rfl rfl hd_T_writeTable ⟨Nat.le_of_ble_eq_true rfl, Nat.le_of_ble_eq_true rfl⟩) cW_w cX_x hB hP hS (ci := 0) rfl (0) rfl rfl hl.1 rfl (Nat.le_of_ble_eq_true rfl) d_T_repair_103 ⟨Nat.zero_le _, Nat.zero_le _⟩ (fun v_ H locs hw hP hS => ?_)
      have hw := hw.symm; subst hw
      refine lv_aload_n hx hb d_T_repair_106 rfl (lv_at hl 3 rfl) ?_
      refine g_callVi (As := []) (rest := []) ⟨hx, hb, hml, hown, hts⟩ (C := R_T) (index := 136) (c_T_guard l D h cA n tb A hn hn2 (wTb n 1 d) ) (cwV 0 hts (gd_V m_360 m_229 m_230 m_30 m_231) rfl rfl rfl hd_T_guard ⟨Nat.le_of_ble_eq_true rfl, Nat.le_of_ble_eq_true rfl⟩) cW_w cX_x hB hP hS (ci := 0) rfl (0) rfl rfl hl.1 rfl (Nat.le_of_ble_eq_true rfl) d_T_repair_107 ⟨Nat.zero_le _, Nat.zero_le _⟩ (fun r_ v_ H locs hw hP hS => ?_)
      obtain ⟨hw1, hw2⟩ := hw; have hw1 := hw1.symm; have hw2 := hw2.symm; subst hw1; subst hw2
      refine lv_if_eq (tgt := 115) hx hb d_T_repair_110 (by decide) (fun c_110 => ?_) (fun c_110 => ?_)
      · have c_110 := bI_0.mp c_110
        refine lv_aload_n hx hb d_T_repair_115 rfl (lv_at hl 3 rfl) ?_
        refine g_callVv (As := []) (rest := []) ⟨hx, hb, hml, hown, hts⟩ (C := R_T) (index := 46) (c_T_writeGuard l D h cA n tb A hn hn2 (wTb n 1 d) ) (cwV 0 hts (gd_V m_131 m_133 m_2 m_30 m_134) rfl rfl rfl hd_T_writeGuard ⟨Nat.le_of_ble_eq_true rfl, Nat.le_of_ble_eq_true rfl⟩) cW_w cX_x hB hP hS (ci := 0) rfl (0) rfl rfl hl.1 rfl (Nat.le_of_ble_eq_true rfl) d_T_repair_116 ⟨Nat.zero_le _, Nat.zero_le _⟩ (fun v_ H locs hw hP hS => ?_)
        have hw := hw.symm; subst hw
        refine lv_iload_n hx hb d_T_repair_119 rfl (lv_at hl 0 rfl) ?_
        refine lv_iconst (v := nI 1) hx hb d_T_repair_120 rfl ?_
        refine lv_iaddN hx hb d_T_repair_121 ?_
        exact g_iret (v := (nI ((2 + 0) + 1))) hx hb hr hlk cW_w cX_x hB hP hS (by rw [reR, oS_s (j := 1) (show src n d = some 1 from (cI_f c_7).trans (cI_t c_23)), show reD n d = wTb n 1 d from by rw [reD, cI_f c_7], show reT n d = 2 + 0 from by rw [reT, cI_f c_7] <;> rfl, cI_f c_110] <;> rfl) d_T_repair_122
      · have c_110 := bI_1 c_110
        refine lv_iload_n hx hb d_T_repair_113 rfl (lv_at hl 0 rfl) ?_
        exact g_iret (v := (nI (2 + 0))) hx hb hr hlk cW_w cX_x hB hP hS (by rw [reR, oS_s (j := 1) (show src n d = some 1 from (cI_f c_7).trans (cI_t c_23)), show reD n d = wTb n 1 d from by rw [reD, cI_f c_7], show reT n d = 2 + 0 from by rw [reT, cI_f c_7] <;> rfl, cI_t c_110] <;> rfl) d_T_repair_114
  · refine lv_iconst (v := nI 1) hx hb d_T_repair_10 rfl ?_
    refine lv_goto (tgt := 15) hx hb d_T_repair_11 (by decide) ?_
    refine lv_istore_n (lv' := [(1, .int (nI (1))), (0, .ref (h 0))]) hx hb d_T_repair_15 rfl hl (by decide) rfl (fun ls hl => ?_)
    refine lv_aload_n hx hb d_T_repair_16 rfl (lv_at hl 1 rfl) ?_
    refine va_get (D := D) (ci := 0) (v := .ref (h (2 + 1))) (C := R_T) (T := F_T) (N := 4) hx hb hts (fun w h => .tail _ (fi_T w h)) hown hK hP 0 rfl rfl 3 (by decide) (hts _ (.tail _ m_89)) (fun _ h9 => h9) rfl d_T_repair_17 ?_
    refine g_callVi (As := []) (rest := []) ⟨hx, hb, hml, hown, hts⟩ (C := R_C) (index := 76) (c_C_firstFault l D h cA n tb A hn hn2 (d) (1) (by decide)) (cwV 0 hts (gd_V m_241 m_242 m_243 m_32 m_244) rfl rfl rfl hd_C_firstFault ⟨Nat.le_of_ble_eq_true rfl, Nat.le_of_ble_eq_true rfl⟩) cW_w cX_x hB hP hS (ci := 2) rfl ((2 + 1)) (cW_C (by decide)) rfl hl.1 rfl (Nat.le_of_ble_eq_true rfl) d_T_repair_20 ⟨Nat.zero_le _, Nat.zero_le _⟩ (fun r_ v_ H locs hw hP hS => ?_)
    obtain ⟨hw1, hw2⟩ := hw; have hw1 := hw1.symm; have hw2 := hw2.symm; subst hw1; subst hw2
    refine lv_if_ne (tgt := 30) hx hb d_T_repair_23 (by decide) (fun c_23 => ?_) (fun c_23 => ?_)
    · refine lv_iconst (v := nI 0) hx hb d_T_repair_30 rfl ?_
      refine lv_istore_n (lv' := [(2, .int (nI (0))), (1, .int (nI (1))), (0, .ref (h 0))]) hx hb d_T_repair_31 rfl hl (by decide) rfl (fun ls hl => ?_)
      refine lv_iload_n hx hb d_T_repair_32 rfl (lv_at hl 1 rfl) ?_
      refine lv_if_ne (tgt := 42) hx hb d_T_repair_33 (by decide) (fun _ => ?_) (fun c9 => absurd c9 (by decide))
      refine lv_iload_n hx hb d_T_repair_42 rfl (lv_at hl 1 rfl) ?_
      refine lv_if_eq (tgt := 50) hx hb d_T_repair_43 (by decide) (fun c9 => absurd c9 (by decide)) (fun _ => ?_)
      refine lv_iconst (v := nI 0) hx hb d_T_repair_46 rfl ?_
      refine lv_goto (tgt := 51) hx hb d_T_repair_47 (by decide) ?_
      refine lv_iload_n hx hb d_T_repair_51 rfl (lv_at hl 0 rfl) ?_
      refine lv_if_eq (tgt := 59) hx hb d_T_repair_52 (by decide) (fun _ => ?_) (fun c9 => absurd (by decide) c9)
      refine lv_iconst (v := nI 4) hx hb d_T_repair_59 rfl ?_
      refine lv_iaddN hx hb d_T_repair_60 ?_
      refine lv_istore_n (lv' := [(3, .int (nI (0 + 4))), (2, .int (nI (0))), (1, .int (nI (1))), (0, .ref (h 0))]) hx hb d_T_repair_61 rfl hl (by decide) rfl (fun ls hl => ?_)
      refine lv_iload_n hx hb d_T_repair_62 rfl (lv_at hl 0 rfl) ?_
      refine lv_if_ne (tgt := 83) hx hb d_T_repair_63 (by decide) (fun _ => ?_) (fun c9 => absurd c9 (by decide))
      refine lv_iload_n hx hb d_T_repair_83 rfl (lv_at hl 0 rfl) ?_
      refine lv_if_eq (tgt := 106) hx hb d_T_repair_84 (by decide) (fun c9 => absurd c9 (by decide)) (fun _ => ?_)
      refine lv_aload_n hx hb d_T_repair_87 rfl (lv_at hl 3 rfl) ?_
      refine lv_iload_n hx hb d_T_repair_88 rfl (lv_at hl 2 rfl) ?_
      refine lv_if_eq (tgt := 99) hx hb d_T_repair_89 (by decide) (fun c9 => absurd c9 (by decide)) (fun _ => ?_)
      refine lv_aload_n hx hb d_T_repair_92 rfl (lv_at hl 3 rfl) ?_
      refine va_get (D := D) (ci := 0) (v := .ref (h (2 + 0))) (C := R_T) (T := F_T) (N := 4) hx hb hts (fun w h => .tail _ (fi_T w h)) hown hK hP 0 rfl rfl 2 (by decide) (hts _ (.tail _ m_88)) (fun _ h9 => h9) rfl d_T_repair_93 ?_
      refine lv_goto (tgt := 103) hx hb d_T_repair_96 (by decide) ?_
      refine g_callVv (As := [.ref (h (2 + 0))]) (rest := []) ⟨hx, hb, hml, hown, hts⟩ (C := R_T) (index := 56) (c_T_writeTable l D h cA n tb A hn hn2 (d) (0) (by decide)) (cwV 1 hts (gd_V m_157 m_159 m_3 m_30 m_160) rfl rfl rfl hd_T_writeTable ⟨Nat.le_of_ble_eq_true rfl, Nat.le_of_ble_eq_true rfl⟩) cW_w cX_x hB hP hS (ci := 0) rfl (0) rfl rfl hl.1 rfl (Nat.le_of_ble_eq_true rfl) d_T_repair_103 ⟨Nat.zero_le _, Nat.zero_le _⟩ (fun v_ H locs hw hP hS => ?_)
      have hw := hw.symm; subst hw
      refine lv_aload_n hx hb d_T_repair_106 rfl (lv_at hl 3 rfl) ?_
      refine g_callVi (As := []) (rest := []) ⟨hx, hb, hml, hown, hts⟩ (C := R_T) (index := 136) (c_T_guard l D h cA n tb A hn hn2 (wTb n 0 d) ) (cwV 0 hts (gd_V m_360 m_229 m_230 m_30 m_231) rfl rfl rfl hd_T_guard ⟨Nat.le_of_ble_eq_true rfl, Nat.le_of_ble_eq_true rfl⟩) cW_w cX_x hB hP hS (ci := 0) rfl (0) rfl rfl hl.1 rfl (Nat.le_of_ble_eq_true rfl) d_T_repair_107 ⟨Nat.zero_le _, Nat.zero_le _⟩ (fun r_ v_ H locs hw hP hS => ?_)
      obtain ⟨hw1, hw2⟩ := hw; have hw1 := hw1.symm; have hw2 := hw2.symm; subst hw1; subst hw2
      refine lv_if_eq (tgt := 115) hx hb d_T_repair_110 (by decide) (fun c_110 => ?_) (fun c_110 => ?_)
      · have c_110 := bI_0.mp c_110
        refine lv_aload_n hx hb d_T_repair_115 rfl (lv_at hl 3 rfl) ?_
        refine g_callVv (As := []) (rest := []) ⟨hx, hb, hml, hown, hts⟩ (C := R_T) (index := 46) (c_T_writeGuard l D h cA n tb A hn hn2 (wTb n 0 d) ) (cwV 0 hts (gd_V m_131 m_133 m_2 m_30 m_134) rfl rfl rfl hd_T_writeGuard ⟨Nat.le_of_ble_eq_true rfl, Nat.le_of_ble_eq_true rfl⟩) cW_w cX_x hB hP hS (ci := 0) rfl (0) rfl rfl hl.1 rfl (Nat.le_of_ble_eq_true rfl) d_T_repair_116 ⟨Nat.zero_le _, Nat.zero_le _⟩ (fun v_ H locs hw hP hS => ?_)
        have hw := hw.symm; subst hw
        refine lv_iload_n hx hb d_T_repair_119 rfl (lv_at hl 0 rfl) ?_
        refine lv_iconst (v := nI 1) hx hb d_T_repair_120 rfl ?_
        refine lv_iaddN hx hb d_T_repair_121 ?_
        exact g_iret (v := (nI ((0 + 4) + 1))) hx hb hr hlk cW_w cX_x hB hP hS (by rw [reR, oS_s (j := 0) (show src n d = some 0 from cI_t c_7), show reD n d = wTb n 0 d from by rw [reD, cI_t c_7, cI_f c_23], show reT n d = 0 + 4 from by rw [reT, cI_t c_7, cI_f c_23] <;> rfl, cI_f c_110] <;> rfl) d_T_repair_122
      · have c_110 := bI_1 c_110
        refine lv_iload_n hx hb d_T_repair_113 rfl (lv_at hl 0 rfl) ?_
        exact g_iret (v := (nI (0 + 4))) hx hb hr hlk cW_w cX_x hB hP hS (by rw [reR, oS_s (j := 0) (show src n d = some 0 from cI_t c_7), show reD n d = wTb n 0 d from by rw [reD, cI_t c_7, cI_f c_23], show reT n d = 0 + 4 from by rw [reT, cI_t c_7, cI_f c_23] <;> rfl, cI_t c_110] <;> rfl) d_T_repair_114
    · refine lv_iconst (v := nI 1) hx hb d_T_repair_26 rfl ?_
      refine lv_goto (tgt := 31) hx hb d_T_repair_27 (by decide) ?_
      refine lv_istore_n (lv' := [(2, .int (nI (1))), (1, .int (nI (1))), (0, .ref (h 0))]) hx hb d_T_repair_31 rfl hl (by decide) rfl (fun ls hl => ?_)
      refine lv_iload_n hx hb d_T_repair_32 rfl (lv_at hl 1 rfl) ?_
      refine lv_if_ne (tgt := 42) hx hb d_T_repair_33 (by decide) (fun _ => ?_) (fun c9 => absurd c9 (by decide))
      refine lv_iload_n hx hb d_T_repair_42 rfl (lv_at hl 1 rfl) ?_
      refine lv_if_eq (tgt := 50) hx hb d_T_repair_43 (by decide) (fun c9 => absurd c9 (by decide)) (fun _ => ?_)
      refine lv_iconst (v := nI 0) hx hb d_T_repair_46 rfl ?_
      refine lv_goto (tgt := 51) hx hb d_T_repair_47 (by decide) ?_
      refine lv_iload_n hx hb d_T_repair_51 rfl (lv_at hl 0 rfl) ?_
      refine lv_if_eq (tgt := 59) hx hb d_T_repair_52 (by decide) (fun c9 => absurd c9 (by decide)) (fun _ => ?_)
      refine lv_iconst (v := nI 0) hx hb d_T_repair_55 rfl ?_
      refine lv_goto (tgt := 60) hx hb d_T_repair_56 (by decide) ?_
      refine lv_iaddN hx hb d_T_repair_60 ?_
      refine lv_istore_n (lv' := [(3, .int (nI (0 + 0))), (2, .int (nI (1))), (1, .int (nI (1))), (0, .ref (h 0))]) hx hb d_T_repair_61 rfl hl (by decide) rfl (fun ls hl => ?_)
      refine lv_iload_n hx hb d_T_repair_62 rfl (lv_at hl 0 rfl) ?_
      refine lv_if_ne (tgt := 83) hx hb d_T_repair_63 (by decide) (fun c9 => absurd (by decide) c9) (fun _ => ?_)
      refine lv_aload_n hx hb d_T_repair_66 rfl (lv_at hl 3 rfl) ?_
      refine va_get (D := D) (ci := 0) (v := .ref (h (2 + 0))) (C := R_T) (T := F_T) (N := 4) hx hb hts (fun w h => .tail _ (fi_T w h)) hown hK hP 0 rfl rfl 2 (by decide) (hts _ (.tail _ m_88)) (fun _ h9 => h9) rfl d_T_repair_67 ?_
      refine lv_aload_n hx hb d_T_repair_70 rfl (lv_at hl 3 rfl) ?_
      refine va_get (D := D) (ci := 0) (v := .ref (h (2 + 1))) (C := R_T) (T := F_T) (N := 4) hx hb hts (fun w h => .tail _ (fi_T w h)) hown hK hP 0 rfl rfl 3 (by decide) (hts _ (.tail _ m_89)) (fun _ h9 => h9) rfl d_T_repair_71 ?_
      refine g_callVi (As := [.ref (h (2 + 1))]) (rest := []) ⟨hx, hb, hml, hown, hts⟩ (C := R_C) (index := 132) (c_C_isLike l D h cA n tb A hn hn2 (d) (0) (by decide) (1) (by decide)) (cwV 1 hts (gd_V m_356 m_357 m_358 m_32 m_359) rfl rfl rfl hd_C_isLike ⟨Nat.le_of_ble_eq_true rfl, Nat.le_of_ble_eq_true rfl⟩) cW_w cX_x hB hP hS (ci := 2) rfl ((2 + 0)) (cW_C (by decide)) rfl hl.1 rfl (Nat.le_of_ble_eq_true rfl) d_T_repair_74 ⟨Nat.zero_le _, Nat.zero_le _⟩ (fun r_ v_ H locs hw hP hS => ?_)
      obtain ⟨hw1, hw2⟩ := hw; have hw1 := hw1.symm; have hw2 := hw2.symm; subst hw1; subst hw2
      refine lv_if_ne (tgt := 83) hx hb d_T_repair_77 (by decide) (fun c_77 => ?_) (fun c_77 => ?_)
      · have c_77 := bI_1 c_77
        refine lv_iload_n hx hb d_T_repair_83 rfl (lv_at hl 0 rfl) ?_
        refine lv_if_eq (tgt := 106) hx hb d_T_repair_84 (by decide) (fun _ => ?_) (fun c9 => absurd (by decide) c9)
        refine lv_aload_n hx hb d_T_repair_106 rfl (lv_at hl 3 rfl) ?_
        refine g_callVi (As := []) (rest := []) ⟨hx, hb, hml, hown, hts⟩ (C := R_T) (index := 136) (c_T_guard l D h cA n tb A hn hn2 (d) ) (cwV 0 hts (gd_V m_360 m_229 m_230 m_30 m_231) rfl rfl rfl hd_T_guard ⟨Nat.le_of_ble_eq_true rfl, Nat.le_of_ble_eq_true rfl⟩) cW_w cX_x hB hP hS (ci := 0) rfl (0) rfl rfl hl.1 rfl (Nat.le_of_ble_eq_true rfl) d_T_repair_107 ⟨Nat.zero_le _, Nat.zero_le _⟩ (fun r_ v_ H locs hw hP hS => ?_)
        obtain ⟨hw1, hw2⟩ := hw; have hw1 := hw1.symm; have hw2 := hw2.symm; subst hw1; subst hw2
        refine lv_if_eq (tgt := 115) hx hb d_T_repair_110 (by decide) (fun c_110 => ?_) (fun c_110 => ?_)
        · have c_110 := bI_0.mp c_110
          refine lv_aload_n hx hb d_T_repair_115 rfl (lv_at hl 3 rfl) ?_
          refine g_callVv (As := []) (rest := []) ⟨hx, hb, hml, hown, hts⟩ (C := R_T) (index := 46) (c_T_writeGuard l D h cA n tb A hn hn2 (d) ) (cwV 0 hts (gd_V m_131 m_133 m_2 m_30 m_134) rfl rfl rfl hd_T_writeGuard ⟨Nat.le_of_ble_eq_true rfl, Nat.le_of_ble_eq_true rfl⟩) cW_w cX_x hB hP hS (ci := 0) rfl (0) rfl rfl hl.1 rfl (Nat.le_of_ble_eq_true rfl) d_T_repair_116 ⟨Nat.zero_le _, Nat.zero_le _⟩ (fun v_ H locs hw hP hS => ?_)
          have hw := hw.symm; subst hw
          refine lv_iload_n hx hb d_T_repair_119 rfl (lv_at hl 0 rfl) ?_
          refine lv_iconst (v := nI 1) hx hb d_T_repair_120 rfl ?_
          refine lv_iaddN hx hb d_T_repair_121 ?_
          exact g_iret (v := (nI ((0 + 0) + 1))) hx hb hr hlk cW_w cX_x hB hP hS (by rw [reR, oS_s (j := 0) (show src n d = some 0 from cI_t c_7), show reD n d = d from by rw [reD, cI_t c_7, cI_t c_23, cI_t c_77], show reT n d = 0 + 0 from by rw [reT, cI_t c_7, cI_t c_23, cI_t c_77] <;> rfl, cI_f c_110] <;> rfl) d_T_repair_122
        · have c_110 := bI_1 c_110
          refine lv_iload_n hx hb d_T_repair_113 rfl (lv_at hl 0 rfl) ?_
          exact g_iret (v := (nI (0 + 0))) hx hb hr hlk cW_w cX_x hB hP hS (by rw [reR, oS_s (j := 0) (show src n d = some 0 from cI_t c_7), show reD n d = d from by rw [reD, cI_t c_7, cI_t c_23, cI_t c_77], show reT n d = 0 + 0 from by rw [reT, cI_t c_7, cI_t c_23, cI_t c_77] <;> rfl, cI_t c_110] <;> rfl) d_T_repair_114
      · have c_77 := bI_0.mp c_77
        refine lv_bipush (v := nI 8) hx hb d_T_repair_80 rfl ?_
        refine lv_istore_n (lv' := [(3, .int (nI (8))), (2, .int (nI (1))), (1, .int (nI (1))), (0, .ref (h 0))]) hx hb d_T_repair_82 rfl hl (by decide) rfl (fun ls hl => ?_)
        refine lv_iload_n hx hb d_T_repair_83 rfl (lv_at hl 0 rfl) ?_
        refine lv_if_eq (tgt := 106) hx hb d_T_repair_84 (by decide) (fun c9 => absurd c9 (by decide)) (fun _ => ?_)
        refine lv_aload_n hx hb d_T_repair_87 rfl (lv_at hl 3 rfl) ?_
        refine lv_iload_n hx hb d_T_repair_88 rfl (lv_at hl 2 rfl) ?_
        refine lv_if_eq (tgt := 99) hx hb d_T_repair_89 (by decide) (fun c9 => absurd c9 (by decide)) (fun _ => ?_)
        refine lv_aload_n hx hb d_T_repair_92 rfl (lv_at hl 3 rfl) ?_
        refine va_get (D := D) (ci := 0) (v := .ref (h (2 + 0))) (C := R_T) (T := F_T) (N := 4) hx hb hts (fun w h => .tail _ (fi_T w h)) hown hK hP 0 rfl rfl 2 (by decide) (hts _ (.tail _ m_88)) (fun _ h9 => h9) rfl d_T_repair_93 ?_
        refine lv_goto (tgt := 103) hx hb d_T_repair_96 (by decide) ?_
        refine g_callVv (As := [.ref (h (2 + 0))]) (rest := []) ⟨hx, hb, hml, hown, hts⟩ (C := R_T) (index := 56) (c_T_writeTable l D h cA n tb A hn hn2 (d) (0) (by decide)) (cwV 1 hts (gd_V m_157 m_159 m_3 m_30 m_160) rfl rfl rfl hd_T_writeTable ⟨Nat.le_of_ble_eq_true rfl, Nat.le_of_ble_eq_true rfl⟩) cW_w cX_x hB hP hS (ci := 0) rfl (0) rfl rfl hl.1 rfl (Nat.le_of_ble_eq_true rfl) d_T_repair_103 ⟨Nat.zero_le _, Nat.zero_le _⟩ (fun v_ H locs hw hP hS => ?_)
        have hw := hw.symm; subst hw
        refine lv_aload_n hx hb d_T_repair_106 rfl (lv_at hl 3 rfl) ?_
        refine g_callVi (As := []) (rest := []) ⟨hx, hb, hml, hown, hts⟩ (C := R_T) (index := 136) (c_T_guard l D h cA n tb A hn hn2 (wTb n 0 d) ) (cwV 0 hts (gd_V m_360 m_229 m_230 m_30 m_231) rfl rfl rfl hd_T_guard ⟨Nat.le_of_ble_eq_true rfl, Nat.le_of_ble_eq_true rfl⟩) cW_w cX_x hB hP hS (ci := 0) rfl (0) rfl rfl hl.1 rfl (Nat.le_of_ble_eq_true rfl) d_T_repair_107 ⟨Nat.zero_le _, Nat.zero_le _⟩ (fun r_ v_ H locs hw hP hS => ?_)
        obtain ⟨hw1, hw2⟩ := hw; have hw1 := hw1.symm; have hw2 := hw2.symm; subst hw1; subst hw2
        refine lv_if_eq (tgt := 115) hx hb d_T_repair_110 (by decide) (fun c_110 => ?_) (fun c_110 => ?_)
        · have c_110 := bI_0.mp c_110
          refine lv_aload_n hx hb d_T_repair_115 rfl (lv_at hl 3 rfl) ?_
          refine g_callVv (As := []) (rest := []) ⟨hx, hb, hml, hown, hts⟩ (C := R_T) (index := 46) (c_T_writeGuard l D h cA n tb A hn hn2 (wTb n 0 d) ) (cwV 0 hts (gd_V m_131 m_133 m_2 m_30 m_134) rfl rfl rfl hd_T_writeGuard ⟨Nat.le_of_ble_eq_true rfl, Nat.le_of_ble_eq_true rfl⟩) cW_w cX_x hB hP hS (ci := 0) rfl (0) rfl rfl hl.1 rfl (Nat.le_of_ble_eq_true rfl) d_T_repair_116 ⟨Nat.zero_le _, Nat.zero_le _⟩ (fun v_ H locs hw hP hS => ?_)
          have hw := hw.symm; subst hw
          refine lv_iload_n hx hb d_T_repair_119 rfl (lv_at hl 0 rfl) ?_
          refine lv_iconst (v := nI 1) hx hb d_T_repair_120 rfl ?_
          refine lv_iaddN hx hb d_T_repair_121 ?_
          exact g_iret (v := (nI (8 + 1))) hx hb hr hlk cW_w cX_x hB hP hS (by rw [reR, oS_s (j := 0) (show src n d = some 0 from cI_t c_7), show reD n d = wTb n 0 d from by rw [reD, cI_t c_7, cI_t c_23, cI_f c_77], show reT n d = 8 from by rw [reT, cI_t c_7, cI_t c_23, cI_f c_77] <;> rfl, cI_f c_110] <;> rfl) d_T_repair_122
        · have c_110 := bI_1 c_110
          refine lv_iload_n hx hb d_T_repair_113 rfl (lv_at hl 0 rfl) ?_
          exact g_iret (v := (nI (8))) hx hb hr hlk cW_w cX_x hB hP hS (by rw [reR, oS_s (j := 0) (show src n d = some 0 from cI_t c_7), show reD n d = wTb n 0 d from by rw [reD, cI_t c_7, cI_t c_23, cI_f c_77], show reT n d = 8 from by rw [reT, cI_t c_7, cI_t c_23, cI_f c_77] <;> rfl, cI_t c_110] <;> rfl) d_T_repair_114
abbrev w_T_field : List Cond := .code y_T_field b_T_field 4 (some .long) :: ALL
abbrev rm_T_field : Room := { frames := 6, cells := 0, slots := 0, locals := 138 }
theorem hd_T_field : y_T_field.cls = R_T ∧ y_T_field.cls ≠ "java/lang/invoke/MethodHandle" ∧ y_T_field.cls ≠ "java/lang/invoke/VarHandle" ∧ (parseMethodDescriptor y_T_field.desc).map (fun d => d.parameters.length) = some 2 := by decide +kernel
set_option maxHeartbeats 4000000 in
set_option maxRecDepth 100000 in
theorem c_T_field (l : Launch) (D : va_G) (h : Nat → Nat) (cA : ClassId) (n tb : Nat) (A : Nat → Prop) (hn : 12 ≤ n) (hn2 : n ≤ 24) (d : Nat → BitVec 8) (x y : Int32) : Met l y_T_field w_T_field rm_T_field (va_Pc [.ref (h 0), .int (x), .int (y)] (cB D h cA n tb A d)) (va_Ql (fun r v => r = fiR n d x y ∧ v = d) (cB D h cA n tb A) A) 0 0 A := by
  refine g_ofW (cc := b_T_field) (maxL := 4) (ret := (some .long)) (by decide) rfl (Nat.le_of_ble_eq_true rfl) ?_
  intro p e s m below meth c ls hx hb hml hr hlk hown hts hnm hB hl
  have hown : s.vm.findClass R_T = some m.cls := hown
  have hP := hB.1
  have hK := hB.2.1
  have hS : va_S A s.heap s.heap [] := va_S.rf
  have hl : lv_has ls 4 [(0, .ref (h 0)), (1, .int (x)), (2, .int (y))] := hl
  refine lv_aload_n hx hb d_T_field_0 rfl (lv_at hl 0 rfl) ?_
  refine g_callVq (As := []) (rest := []) ⟨hx, hb, hml, hown, hts⟩ (C := R_T) (index := 80) (c_T_table l D h cA n tb A hn hn2 (d) ) (cwV 0 hts (gd_V m_290 m_292 m_13 m_30 m_293) rfl rfl rfl hd_T_table ⟨Nat.le_of_ble_eq_true rfl, Nat.le_of_ble_eq_true rfl⟩) cW_w cX_x hB hP hS (ci := 0) rfl (0) rfl rfl hl.1 rfl (Nat.le_of_ble_eq_true rfl) d_T_field_1 ⟨Nat.zero_le _, Nat.zero_le _⟩ (fun r_ v_ H locs hw hP hS => ?_)
  obtain ⟨hw, hv⟩ := hw; have hv := hv.symm; subst hv
  rcases hw with ⟨j, hj, hsr, rfl⟩ | ⟨hsr, rfl⟩
  · have hHd := cHd_le hn hj
    have hAr := cAr_le hn hj
    refine lv_astore_n (lv' := [(3, .ref (h (2 + j))), (0, .ref (h 0)), (1, .int (x)), (2, .int (y))]) hx hb d_T_field_4 rfl hl (by decide) rfl (fun ls hl => ?_)
    refine lv_aload_n hx hb d_T_field_5 rfl (lv_at hl 0 rfl) ?_
    refine lv_ifnull hx hb d_T_field_6 ?_
    refine lv_iload_n hx hb d_T_field_9 rfl (lv_at hl 2 rfl) ?_
    refine g_callSi (As := [.int (x)]) (rest := []) ⟨hx, hb, hml, hown, hts⟩ (index := 143) (c_T_isEntry l D h cA n tb A hn hn2 (d) (x)) (cwS 1 hts (gd_S m_333 m_334 m_30 m_335) rfl rfl rfl hd_T_isEntry ⟨Nat.le_of_ble_eq_true rfl, Nat.le_of_ble_eq_true rfl⟩) cW_w cX_x hB hP hS rfl hl.1 rfl (Nat.le_of_ble_eq_true rfl) d_T_field_10 ⟨Nat.zero_le _, Nat.zero_le _⟩ (fun r_ v_ H locs hw hP hS => ?_)
    obtain ⟨hw1, hw2⟩ := hw; have hw1 := hw1.symm; have hw2 := hw2.symm; subst hw1; subst hw2
    refine lv_if_ne (tgt := 18) hx hb d_T_field_13 (by decide) (fun c_13 => ?_) (fun c_13 => ?_)
    · have c_13 := bI_1 c_13
      obtain ⟨a, ha, rfl⟩ := inR_ex (by omega) c_13
      refine lv_iload_n hx hb d_T_field_18 rfl (lv_at hl 3 rfl) ?_
      by_cases hy : inR y 7
      · obtain ⟨b, hb2, rfl⟩ := inR_ex (by decide) hy
        rcases (show b = 0 ∨ b = 1 ∨ b = 2 ∨ b = 3 ∨ b = 4 ∨ b = 5 ∨ b = 6 by omega) with rfl | rfl | rfl | rfl | rfl | rfl | rfl
        · have hl : lv_has ls 4 [(3, .ref (h (2 + j))), (0, .ref (h 0)), (1, .int (nI (a))), (2, .int (nI (0)))] := hl
          refine lv_tableIn (tgt := 60) hx hb d_T_field_19 (by decide) (by decide) (off := 41) (by decide) (by decide) ?_
          refine lv_aload_n hx hb d_T_field_60 rfl (lv_at hl 0 rfl) ?_
          refine lv_iload_n hx hb d_T_field_61 rfl (lv_at hl 2 rfl) ?_
          refine lv_bipush (v := nI 32) hx hb d_T_field_62 rfl ?_
          refine g_callVl (As := [.int (nI (a)), .int (nI (32))]) (rest := []) ⟨hx, hb, hml, hown, hts⟩ (C := R_C) (index := 146) (c_C_getLong l D h cA n tb A hn hn2 (d) (j) hj (a) (32) (by omega) (by omega)) (cwV 2 hts (gd_V m_373 m_258 m_259 m_32 m_260) rfl rfl rfl hd_C_getLong ⟨Nat.le_of_ble_eq_true rfl, Nat.le_of_ble_eq_true rfl⟩) cW_w cX_x hB hP hS (ci := 2) rfl ((2 + j)) (cW_C hj) rfl hl.1 rfl (Nat.le_of_ble_eq_true rfl) d_T_field_64 ⟨Nat.zero_le _, Nat.zero_le _⟩ (fun r_ v_ H locs hw hP hS => ?_)
          obtain ⟨hw1, hw2⟩ := hw; have hw1 := hw1.symm; have hw2 := hw2.symm; subst hw1; subst hw2
          exact g_lret (v := (num d (cAr n j + a * 128 + 32) 8)) hx hb hr hlk cW_w cX_x hB hP hS (⟨by rw [fiR, oS_s hsr, cI_t ⟨c_13, hy⟩, cl_nI (by omega)] <;> rfl, rfl⟩) d_T_field_67
        · have hl : lv_has ls 4 [(3, .ref (h (2 + j))), (0, .ref (h 0)), (1, .int (nI (a))), (2, .int (nI (1)))] := hl
          refine lv_tableIn (tgt := 68) hx hb d_T_field_19 (by decide) (by decide) (off := 49) (by decide) (by decide) ?_
          refine lv_aload_n hx hb d_T_field_68 rfl (lv_at hl 0 rfl) ?_
          refine lv_iload_n hx hb d_T_field_69 rfl (lv_at hl 2 rfl) ?_
          refine lv_bipush (v := nI 40) hx hb d_T_field_70 rfl ?_
          refine g_callVl (As := [.int (nI (a)), .int (nI (40))]) (rest := []) ⟨hx, hb, hml, hown, hts⟩ (C := R_C) (index := 146) (c_C_getLong l D h cA n tb A hn hn2 (d) (j) hj (a) (40) (by omega) (by omega)) (cwV 2 hts (gd_V m_373 m_258 m_259 m_32 m_260) rfl rfl rfl hd_C_getLong ⟨Nat.le_of_ble_eq_true rfl, Nat.le_of_ble_eq_true rfl⟩) cW_w cX_x hB hP hS (ci := 2) rfl ((2 + j)) (cW_C hj) rfl hl.1 rfl (Nat.le_of_ble_eq_true rfl) d_T_field_72 ⟨Nat.zero_le _, Nat.zero_le _⟩ (fun r_ v_ H locs hw hP hS => ?_)
          obtain ⟨hw1, hw2⟩ := hw; have hw1 := hw1.symm; have hw2 := hw2.symm; subst hw1; subst hw2
          exact g_lret (v := (num d (cAr n j + a * 128 + 40) 8)) hx hb hr hlk cW_w cX_x hB hP hS (⟨by rw [fiR, oS_s hsr, cI_t ⟨c_13, hy⟩, cl_nI (by omega)] <;> rfl, rfl⟩) d_T_field_75
        · have hl : lv_has ls 4 [(3, .ref (h (2 + j))), (0, .ref (h 0)), (1, .int (nI (a))), (2, .int (nI (2)))] := hl
          refine lv_tableIn (tgt := 76) hx hb d_T_field_19 (by decide) (by decide) (off := 57) (by decide) (by decide) ?_
          refine lv_aload_n hx hb d_T_field_76 rfl (lv_at hl 0 rfl) ?_
          refine lv_iload_n hx hb d_T_field_77 rfl (lv_at hl 2 rfl) ?_
          refine lv_bipush (v := nI 48) hx hb d_T_field_78 rfl ?_
          refine g_callVl (As := [.int (nI (a)), .int (nI (48))]) (rest := []) ⟨hx, hb, hml, hown, hts⟩ (C := R_C) (index := 146) (c_C_getLong l D h cA n tb A hn hn2 (d) (j) hj (a) (48) (by omega) (by omega)) (cwV 2 hts (gd_V m_373 m_258 m_259 m_32 m_260) rfl rfl rfl hd_C_getLong ⟨Nat.le_of_ble_eq_true rfl, Nat.le_of_ble_eq_true rfl⟩) cW_w cX_x hB hP hS (ci := 2) rfl ((2 + j)) (cW_C hj) rfl hl.1 rfl (Nat.le_of_ble_eq_true rfl) d_T_field_80 ⟨Nat.zero_le _, Nat.zero_le _⟩ (fun r_ v_ H locs hw hP hS => ?_)
          obtain ⟨hw1, hw2⟩ := hw; have hw1 := hw1.symm; have hw2 := hw2.symm; subst hw1; subst hw2
          exact g_lret (v := (num d (cAr n j + a * 128 + 48) 8)) hx hb hr hlk cW_w cX_x hB hP hS (⟨by rw [fiR, oS_s hsr, cI_t ⟨c_13, hy⟩, cl_nI (by omega)] <;> rfl, rfl⟩) d_T_field_83
        · have hl : lv_has ls 4 [(3, .ref (h (2 + j))), (0, .ref (h 0)), (1, .int (nI (a))), (2, .int (nI (3)))] := hl
          refine lv_tableIn (tgt := 84) hx hb d_T_field_19 (by decide) (by decide) (off := 65) (by decide) (by decide) ?_
          refine lv_aload_n hx hb d_T_field_84 rfl (lv_at hl 0 rfl) ?_
          refine lv_iload_n hx hb d_T_field_85 rfl (lv_at hl 2 rfl) ?_
          refine lv_iconst (v := nI 0) hx hb d_T_field_86 rfl ?_
          refine g_callVl (As := [.int (nI (a)), .int (nI (0))]) (rest := []) ⟨hx, hb, hml, hown, hts⟩ (C := R_C) (index := 146) (c_C_getLong l D h cA n tb A hn hn2 (d) (j) hj (a) (0) (by omega) (by omega)) (cwV 2 hts (gd_V m_373 m_258 m_259 m_32 m_260) rfl rfl rfl hd_C_getLong ⟨Nat.le_of_ble_eq_true rfl, Nat.le_of_ble_eq_true rfl⟩) cW_w cX_x hB hP hS (ci := 2) rfl ((2 + j)) (cW_C hj) rfl hl.1 rfl (Nat.le_of_ble_eq_true rfl) d_T_field_87 ⟨Nat.zero_le _, Nat.zero_le _⟩ (fun r_ v_ H locs hw hP hS => ?_)
          obtain ⟨hw1, hw2⟩ := hw; have hw1 := hw1.symm; have hw2 := hw2.symm; subst hw1; subst hw2
          exact g_lret (v := (num d (cAr n j + a * 128 + 0) 8)) hx hb hr hlk cW_w cX_x hB hP hS (⟨by rw [fiR, oS_s hsr, cI_t ⟨c_13, hy⟩, cl_nI (by omega)] <;> rfl, rfl⟩) d_T_field_90
        · have hl : lv_has ls 4 [(3, .ref (h (2 + j))), (0, .ref (h 0)), (1, .int (nI (a))), (2, .int (nI (4)))] := hl
          refine lv_tableIn (tgt := 91) hx hb d_T_field_19 (by decide) (by decide) (off := 72) (by decide) (by decide) ?_
          refine lv_aload_n hx hb d_T_field_91 rfl (lv_at hl 0 rfl) ?_
          refine lv_iload_n hx hb d_T_field_92 rfl (lv_at hl 2 rfl) ?_
          refine lv_bipush (v := nI 8) hx hb d_T_field_93 rfl ?_
          refine g_callVl (As := [.int (nI (a)), .int (nI (8))]) (rest := []) ⟨hx, hb, hml, hown, hts⟩ (C := R_C) (index := 146) (c_C_getLong l D h cA n tb A hn hn2 (d) (j) hj (a) (8) (by omega) (by omega)) (cwV 2 hts (gd_V m_373 m_258 m_259 m_32 m_260) rfl rfl rfl hd_C_getLong ⟨Nat.le_of_ble_eq_true rfl, Nat.le_of_ble_eq_true rfl⟩) cW_w cX_x hB hP hS (ci := 2) rfl ((2 + j)) (cW_C hj) rfl hl.1 rfl (Nat.le_of_ble_eq_true rfl) d_T_field_95 ⟨Nat.zero_le _, Nat.zero_le _⟩ (fun r_ v_ H locs hw hP hS => ?_)
          obtain ⟨hw1, hw2⟩ := hw; have hw1 := hw1.symm; have hw2 := hw2.symm; subst hw1; subst hw2
          exact g_lret (v := (num d (cAr n j + a * 128 + 8) 8)) hx hb hr hlk cW_w cX_x hB hP hS (⟨by rw [fiR, oS_s hsr, cI_t ⟨c_13, hy⟩, cl_nI (by omega)] <;> rfl, rfl⟩) d_T_field_98
        · have hl : lv_has ls 4 [(3, .ref (h (2 + j))), (0, .ref (h 0)), (1, .int (nI (a))), (2, .int (nI (5)))] := hl
          refine lv_tableIn (tgt := 99) hx hb d_T_field_19 (by decide) (by decide) (off := 80) (by decide) (by decide) ?_
          refine lv_aload_n hx hb d_T_field_99 rfl (lv_at hl 0 rfl) ?_
          refine lv_iload_n hx hb d_T_field_100 rfl (lv_at hl 2 rfl) ?_
          refine lv_bipush (v := nI 16) hx hb d_T_field_101 rfl ?_
          refine g_callVl (As := [.int (nI (a)), .int (nI (16))]) (rest := []) ⟨hx, hb, hml, hown, hts⟩ (C := R_C) (index := 146) (c_C_getLong l D h cA n tb A hn hn2 (d) (j) hj (a) (16) (by omega) (by omega)) (cwV 2 hts (gd_V m_373 m_258 m_259 m_32 m_260) rfl rfl rfl hd_C_getLong ⟨Nat.le_of_ble_eq_true rfl, Nat.le_of_ble_eq_true rfl⟩) cW_w cX_x hB hP hS (ci := 2) rfl ((2 + j)) (cW_C hj) rfl hl.1 rfl (Nat.le_of_ble_eq_true rfl) d_T_field_103 ⟨Nat.zero_le _, Nat.zero_le _⟩ (fun r_ v_ H locs hw hP hS => ?_)
          obtain ⟨hw1, hw2⟩ := hw; have hw1 := hw1.symm; have hw2 := hw2.symm; subst hw1; subst hw2
          exact g_lret (v := (num d (cAr n j + a * 128 + 16) 8)) hx hb hr hlk cW_w cX_x hB hP hS (⟨by rw [fiR, oS_s hsr, cI_t ⟨c_13, hy⟩, cl_nI (by omega)] <;> rfl, rfl⟩) d_T_field_106
        · have hl : lv_has ls 4 [(3, .ref (h (2 + j))), (0, .ref (h 0)), (1, .int (nI (a))), (2, .int (nI (6)))] := hl
          refine lv_tableIn (tgt := 107) hx hb d_T_field_19 (by decide) (by decide) (off := 88) (by decide) (by decide) ?_
          refine lv_aload_n hx hb d_T_field_107 rfl (lv_at hl 0 rfl) ?_
          refine lv_iload_n hx hb d_T_field_108 rfl (lv_at hl 2 rfl) ?_
          refine lv_bipush (v := nI 24) hx hb d_T_field_109 rfl ?_
          refine g_callVl (As := [.int (nI (a)), .int (nI (24))]) (rest := []) ⟨hx, hb, hml, hown, hts⟩ (C := R_C) (index := 146) (c_C_getLong l D h cA n tb A hn hn2 (d) (j) hj (a) (24) (by omega) (by omega)) (cwV 2 hts (gd_V m_373 m_258 m_259 m_32 m_260) rfl rfl rfl hd_C_getLong ⟨Nat.le_of_ble_eq_true rfl, Nat.le_of_ble_eq_true rfl⟩) cW_w cX_x hB hP hS (ci := 2) rfl ((2 + j)) (cW_C hj) rfl hl.1 rfl (Nat.le_of_ble_eq_true rfl) d_T_field_111 ⟨Nat.zero_le _, Nat.zero_le _⟩ (fun r_ v_ H locs hw hP hS => ?_)
          obtain ⟨hw1, hw2⟩ := hw; have hw1 := hw1.symm; have hw2 := hw2.symm; subst hw1; subst hw2
          exact g_lret (v := (num d (cAr n j + a * 128 + 24) 8)) hx hb hr hlk cW_w cX_x hB hP hS (⟨by rw [fiR, oS_s hsr, cI_t ⟨c_13, hy⟩, cl_nI (by omega)] <;> rfl, rfl⟩) d_T_field_114
      · refine lv_tableOut (tgt := 115) hx hb d_T_field_19 (nR7 hy) (by decide) ?_
        refine lv_lconst (v := 0) hx hb d_T_field_115 rfl ?_
        exact g_lret (v := (0)) hx hb hr hlk cW_w cX_x hB hP hS (⟨by rw [fiR, oS_s hsr, cI_f (q := inR (nI a) 8 ∧ inR y 7) (fun z => hy z.2)], rfl⟩) d_T_field_116
    · have c_13 := bI_0.mp c_13
      refine lv_lconst (v := 0) hx hb d_T_field_16 rfl ?_
      exact g_lret (v := (0)) hx hb hr hlk cW_w cX_x hB hP hS (⟨by rw [fiR, oS_s hsr, cI_f (q := inR x 8 ∧ inR y 7) (fun z => c_13 z.1)], rfl⟩) d_T_field_17
  · refine lv_astore_nN (lv' := [(3, .null), (0, .ref (h 0)), (1, .int (x)), (2, .int (y))]) hx hb d_T_field_4 rfl hl (by decide) rfl (fun ls hl => ?_)
    refine lv_aload_nN hx hb d_T_field_5 rfl (lv_at hl 0 rfl) ?_
    refine lv_ifnullN (tgt := 16) hx hb d_T_field_6 (by decide) ?_
    refine lv_lconst (v := 0) hx hb d_T_field_16 rfl ?_
    exact g_lret (v := (0)) hx hb hr hlk cW_w cX_x hB hP hS (⟨(oS_n hsr).symm, rfl⟩) d_T_field_17
