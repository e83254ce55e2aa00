theorem su_big {n : Nat} {x y z : Int32} (w : inR x n ∧ ¬ y < 0 ∧ ¬ nI 512 < y ∧ ¬ z < 0 ∧ z ≤ nI 512 - y) (c : nI 512 < z) : False := by
  obtain ⟨b, hb, rfl⟩ := up_ex (by decide) w.2.1 w.2.2.1
  obtain ⟨g, hg, rfl⟩ := nI_of w.2.2.2.1
  have q := w.2.2.2.2
  rw [pk_sub (by omega)] at q
  have h1 := (nI_leI (by omega) (by omega)).mp q
  have h2 := (nI_ltI (by omega) (by omega)).mp c
  omega
abbrev w_M_peek : List Cond := .code y_M_peek b_M_peek 3 (some .int) :: ALL
abbrev rm_M_peek : Room := { frames := 1, cells := 0, slots := 0, locals := 22 }
theorem hd_M_peek : y_M_peek.cls = R_M ∧ y_M_peek.cls ≠ "java/lang/invoke/MethodHandle" ∧ y_M_peek.cls ≠ "java/lang/invoke/VarHandle" ∧ (parseMethodDescriptor y_M_peek.desc).map (fun d => d.parameters.length) = some 2 := by decide +kernel
set_option maxHeartbeats 4000000 in
set_option maxRecDepth 100000 in
theorem c_M_peek (l : Launch) (D : va_G) (k : Nat → Nat) (cI : Nat → ClassId) (n : Nat) (A : Nat → Prop) (hn : 12 ≤ n) (hn2 : n ≤ 24) (d t mk : Nat → BitVec 8) (x y : Int32) : Met l y_M_peek w_M_peek rm_M_peek (va_Pc [.ref (k 0), .int (x), .int (y)] (mB D k cI n A (mU d t mk))) (va_Qi (fun r v => r = pkR n d x y ∧ mO d v) (mB D k cI n A) A) 0 0 A := by
  refine g_ofW (cc := b_M_peek) (maxL := 3) (ret := (some .int)) (by decide) rfl (Nat.le_of_ble_eq_true rfl) ?_
  intro p e s m below meth c ls hx hb hml hr hlk hown hts hnm hB hl
  have hown : s.vm.findClass R_M = some m.cls := hown
  have hP := hB.1
  have hK := hB.2.1
  obtain ⟨H, hH⟩ : ∃ H, H = s.heap := ⟨_, rfl⟩
  have hS : va_S A s.heap H [] := by rw [hH]; exact va_S.rf
  rw [← hH] at hP ⊢
  have hl : lv_has ls 3 [(0, .ref (k 0)), (1, .int (x)), (2, .int (y))] := hl
  have z1 : mSz 1 = 12288 := rfl
  have z2 : mSz 2 = 1024 := rfl
  have z3 : mSz 3 = 16 := rfl
  refine lv_aload_n hx hb d_M_peek_0 rfl (lv_at hl 0 rfl) ?_
  refine lv_iload_n hx hb d_M_peek_1 rfl (lv_at hl 1 rfl) ?_
  refine lv_iload_n hx hb d_M_peek_2 rfl (lv_at hl 2 rfl) ?_
  refine g_callVi (As := [.int (x), .int (y)]) (rest := []) ⟨hx, hb, hml, hown, hts⟩ (C := R_M) (index := 23) (c_M_isPlace l D k cI n A hn hn2 (d) (t) (mk) (x) (y)) (cwV 2 hts (gd_V m_426 m_428 m_14 m_33 m_429) rfl rfl rfl hd_M_isPlace ⟨Nat.le_of_ble_eq_true rfl, Nat.le_of_ble_eq_true rfl⟩) mW_w mX_x hB hP hS (ci := 3) rfl (0) rfl rfl hl.1 rfl (Nat.le_of_ble_eq_true rfl) d_M_peek_3 ⟨Nat.zero_le _, Nat.zero_le _⟩ (fun r_ v_ H locs hw hP hS => ?_)
  obtain ⟨hw1, hw2⟩ := hw; have hw1 := hw1.symm; have hw2 := hw2.symm; subst hw1; subst hw2
  refine lv_if_eq (tgt := 24) hx hb d_M_peek_6 (by decide) (fun c_6 => ?_) (fun c_6 => ?_)
  · have c_6 := bI_0.mp c_6
    refine lv_iconst (v := -1) hx hb d_M_peek_24 rfl ?_
    exact g_iret (v := (-1)) hx hb hr hlk mW_w mX_x hB hP hS (⟨(cI_f c_6).symm, _, _, rfl⟩) d_M_peek_25
  · have c_6 := bI_1 c_6
    obtain ⟨a, ha, rfl⟩ := inR_ex (by omega) c_6.1
    obtain ⟨b, hb2, rfl⟩ := inR_ex (by omega) c_6.2
    refine lv_aload_n hx hb d_M_peek_9 rfl (lv_at hl 0 rfl) ?_
    refine va_get (D := D) (ci := 3) (v := .ref (k 1)) (C := R_M) (T := F_M) (N := 4) hx hb hts (fun w h => .tail _ (fi_M w h)) hown hK hP 0 rfl rfl 1 (by decide) (hts _ (.tail _ m_405)) (fun _ h9 => h9) rfl d_M_peek_10 ?_
    refine lv_sipush (v := nI 512) hx hb d_M_peek_13 rfl ?_
    refine lv_iload_n hx hb d_M_peek_16 rfl (lv_at hl 1 rfl) ?_
    refine lv_imulC hx hb d_M_peek_17 ?_
    refine lv_iload_n hx hb d_M_peek_18 rfl (lv_at hl 2 rfl) ?_
    refine lv_iaddN hx hb d_M_peek_19 ?_
    refine m_iald hx hb hB hP (i := 1) (by decide) (by decide) (a := (a * 512) + b) (by omega) d_M_peek_20 ?_
    refine lv_goto (tgt := 25) hx hb d_M_peek_21 (by decide) ?_
    exact g_iret (v := (zx (d ((a * 512) + b)))) hx hb hr hlk mW_w mX_x hB hP hS (⟨by rw [pkR, cI_t c_6, cl_nI (by omega), cl_nI (by omega)], _, _, rfl⟩) d_M_peek_25
abbrev w_M_poke : List Cond := .code y_M_poke b_M_poke 4 (some .boolean) :: ALL
abbrev rm_M_poke : Room := { frames := 1, cells := 0, slots := 0, locals := 22 }
theorem hd_M_poke : y_M_poke.cls = R_M ∧ y_M_poke.cls ≠ "java/lang/invoke/MethodHandle" ∧ y_M_poke.cls ≠ "java/lang/invoke/VarHandle" ∧ (parseMethodDescriptor y_M_poke.desc).map (fun d => d.parameters.length) = some 3 := by decide +kernel
set_option maxHeartbeats 4000000 in
set_option maxRecDepth 100000 in
theorem c_M_poke (l : Launch) (D : va_G) (k : Nat → Nat) (cI : Nat → ClassId) (n : Nat) (A : Nat → Prop) (hn : 12 ≤ n) (hn2 : n ≤ 24) (d t mk : Nat → BitVec 8) (x y z : Int32) : Met l y_M_poke w_M_poke rm_M_poke (va_Pc [.ref (k 0), .int (x), .int (y), .int (z)] (mB D k cI n A (mU d t mk))) (va_Qi (fun r v => r = (poR n d x y z).1 ∧ mO (poR n d x y z).2 v) (mB D k cI n A) A) 0 0 A := by
  refine g_ofW (cc := b_M_poke) (maxL := 4) (ret := (some .boolean)) (by decide) rfl (Nat.le_of_ble_eq_true rfl) ?_
  intro p e s m below meth c ls hx hb hml hr hlk hown hts hnm hB hl
  have hown : s.vm.findClass R_M = some m.cls := hown
  have hP := hB.1
  have hK := hB.2.1
  obtain ⟨H, hH⟩ : ∃ H, H = s.heap := ⟨_, rfl⟩
  have hS : va_S A s.heap H [] := by rw [hH]; exact va_S.rf
  rw [← hH] at hP ⊢
  have hl : lv_has ls 4 [(0, .ref (k 0)), (1, .int (x)), (2, .int (y)), (3, .int (z))] := hl
  have z1 : mSz 1 = 12288 := rfl
  have z2 : mSz 2 = 1024 := rfl
  have z3 : mSz 3 = 16 := rfl
  refine lv_aload_n hx hb d_M_poke_0 rfl (lv_at hl 0 rfl) ?_
  refine lv_iload_n hx hb d_M_poke_1 rfl (lv_at hl 1 rfl) ?_
  refine lv_iload_n hx hb d_M_poke_2 rfl (lv_at hl 2 rfl) ?_
  refine g_callVi (As := [.int (x), .int (y)]) (rest := []) ⟨hx, hb, hml, hown, hts⟩ (C := R_M) (index := 23) (c_M_isPlace l D k cI n A hn hn2 (d) (t) (mk) (x) (y)) (cwV 2 hts (gd_V m_426 m_428 m_14 m_33 m_429) rfl rfl rfl hd_M_isPlace ⟨Nat.le_of_ble_eq_true rfl, Nat.le_of_ble_eq_true rfl⟩) mW_w mX_x hB hP hS (ci := 3) rfl (0) rfl rfl hl.1 rfl (Nat.le_of_ble_eq_true rfl) d_M_poke_3 ⟨Nat.zero_le _, Nat.zero_le _⟩ (fun r_ v_ H locs hw hP hS => ?_)
  obtain ⟨hw1, hw2⟩ := hw; have hw1 := hw1.symm; have hw2 := hw2.symm; subst hw1; subst hw2
  refine lv_if_ne (tgt := 11) hx hb d_M_poke_6 (by decide) (fun c_6 => ?_) (fun c_6 => ?_)
  · have c_6 := bI_1 c_6
    obtain ⟨a, ha, rfl⟩ := inR_ex (by omega) c_6.1
    obtain ⟨b, hb2, rfl⟩ := inR_ex (by omega) c_6.2
    refine lv_aload_n hx hb d_M_poke_11 rfl (lv_at hl 0 rfl) ?_
    refine va_get (D := D) (ci := 3) (v := .ref (k 1)) (C := R_M) (T := F_M) (N := 4) hx hb hts (fun w h => .tail _ (fi_M w h)) hown hK hP 0 rfl rfl 1 (by decide) (hts _ (.tail _ m_405)) (fun _ h9 => h9) rfl d_M_poke_12 ?_
    refine lv_sipush (v := nI 512) hx hb d_M_poke_15 rfl ?_
    refine lv_iload_n hx hb d_M_poke_18 rfl (lv_at hl 1 rfl) ?_
    refine lv_imulC hx hb d_M_poke_19 ?_
    refine lv_iload_n hx hb d_M_poke_20 rfl (lv_at hl 2 rfl) ?_
    refine lv_iaddN hx hb d_M_poke_21 ?_
    refine lv_iload_n hx hb d_M_poke_22 rfl (lv_at hl 3 rfl) ?_
    refine lv_sipush (v := nI 255) hx hb d_M_poke_23 rfl ?_
    refine lv_iand hx hb d_M_poke_26 ?_
    refine m_iast hx hb hB hP hS (i := 1) (by decide) (by decide) (a := (a * 512) + b) (y := lo8 z) (and_255 z) (by omega) d_M_poke_27 (fun H locs hP hS => ?_)
    have hP : va_P D classes (mW k cI n (mU (va_up d ((a * 512) + b) (lo8 z)) (t) (mk))) H := by rw [mU_1] at hP; exact hP
    refine lv_iconst (v := nI 1) hx hb d_M_poke_28 rfl ?_
    exact g_zret (v := (nI (1))) hx hb hr (rfl) hlk mW_w mX_x hB hP hS (by rw [poR, cI_t c_6, cl_nI (by omega), cl_nI (by omega)]; exact ⟨rfl, _, _, by rw [← po_eq]⟩) d_M_poke_29
  · have c_6 := bI_0.mp c_6
    refine lv_iconst (v := nI 0) hx hb d_M_poke_9 rfl ?_
    exact g_zret (v := (nI (0))) hx hb hr (rfl) hlk mW_w mX_x hB hP hS (by rw [poR, cI_f c_6]; exact ⟨rfl, _, _, rfl⟩) d_M_poke_10
abbrev w_M_sum : List Cond := .code y_M_sum b_M_sum 5 (some .int) :: ALL
abbrev rm_M_sum : Room := { frames := 2, cells := 0, slots := 0, locals := 49 }
theorem hd_M_sum : y_M_sum.cls = R_M ∧ y_M_sum.cls ≠ "java/lang/invoke/MethodHandle" ∧ y_M_sum.cls ≠ "java/lang/invoke/VarHandle" ∧ (parseMethodDescriptor y_M_sum.desc).map (fun d => d.parameters.length) = some 3 := by decide +kernel
set_option maxHeartbeats 4000000 in
set_option maxRecDepth 100000 in
theorem c_M_sum (l : Launch) (D : va_G) (k : Nat → Nat) (cI : Nat → ClassId) (n : Nat) (A : Nat → Prop) (hn : 12 ≤ n) (hn2 : n ≤ 24) (d t mk : Nat → BitVec 8) (x y z : Int32) : Met l y_M_sum w_M_sum rm_M_sum (va_Pc [.ref (k 0), .int (x), .int (y), .int (z)] (mB D k cI n A (mU d t mk))) (va_Qi (fun r v => r = suR n d x y z ∧ mO d v) (mB D k cI n A) A) 0 0 A := by
  refine g_ofW (cc := b_M_sum) (maxL := 5) (ret := (some .int)) (by decide) rfl (Nat.le_of_ble_eq_true rfl) ?_
  intro p e s m below meth c ls hx hb hml hr hlk hown hts hnm hB hl
  have hown : s.vm.findClass R_M = some m.cls := hown
  have hP := hB.1
  have hK := hB.2.1
  obtain ⟨H, hH⟩ : ∃ H, H = s.heap := ⟨_, rfl⟩
  have hS : va_S A s.heap H [] := by rw [hH]; exact va_S.rf
  rw [← hH] at hP ⊢
  have hl : lv_has ls 5 [(0, .ref (k 0)), (1, .int (x)), (2, .int (y)), (3, .int (z))] := hl
  have z1 : mSz 1 = 12288 := rfl
  have z2 : mSz 2 = 1024 := rfl
  have z3 : mSz 3 = 16 := rfl
  refine lv_iload_n hx hb d_M_sum_0 rfl (lv_at hl 1 rfl) ?_
  refine lv_if_lt (tgt := 38) hx hb d_M_sum_1 (by decide) (fun c_1 => ?_) (fun c_1 => ?_)
  · refine lv_iconst (v := nI 0) hx hb d_M_sum_38 rfl ?_
    refine lv_istore (lv' := [(4, .int (nI (0))), (0, .ref (k 0)), (1, .int (x)), (2, .int (y)), (3, .int (z))]) hx hb d_M_sum_39 hl (by decide) rfl (fun ls hl => ?_)
    refine lv_iload hx hb d_M_sum_41 (lv_at hl 0 rfl) ?_
    refine lv_if_eq (tgt := 71) hx hb d_M_sum_43 (by decide) (fun _ => ?_) (fun c9 => absurd (by decide) c9)
    refine lv_iconst (v := nI 0) hx hb d_M_sum_71 rfl ?_
    exact g_iret (v := (nI (0))) hx hb hr hlk mW_w mX_x hB hP hS (⟨(cI_f (q := inR x n ∧ ¬ y < 0 ∧ ¬ nI 512 < y ∧ ¬ z < 0 ∧ z ≤ nI 512 - y) (fun w => w.1.1 c_1)).symm, _, _, rfl⟩) d_M_sum_72
  · refine lv_iload_n hx hb d_M_sum_4 rfl (lv_at hl 1 rfl) ?_
    refine lv_aload_n hx hb d_M_sum_5 rfl (lv_at hl 0 rfl) ?_
    refine va_get (D := D) (ci := 3) (v := .int (nI (n))) (C := R_M) (T := F_M) (N := 4) hx hb hts (fun w h => .tail _ (fi_M w h)) hown hK hP 0 rfl rfl 0 (by decide) (hts _ (.tail _ m_404)) (fun _ h9 => h9) rfl d_M_sum_6 ?_
    refine lv_icmp_ge (tgt := 38) hx hb d_M_sum_9 (by decide) (fun c_9 => ?_) (fun c_9 => ?_)
    · refine lv_iconst (v := nI 0) hx hb d_M_sum_38 rfl ?_
      refine lv_istore (lv' := [(4, .int (nI (0))), (0, .ref (k 0)), (1, .int (x)), (2, .int (y)), (3, .int (z))]) hx hb d_M_sum_39 hl (by decide) rfl (fun ls hl => ?_)
      refine lv_iload hx hb d_M_sum_41 (lv_at hl 0 rfl) ?_
      refine lv_if_eq (tgt := 71) hx hb d_M_sum_43 (by decide) (fun _ => ?_) (fun c9 => absurd (by decide) c9)
      refine lv_iconst (v := nI 0) hx hb d_M_sum_71 rfl ?_
      exact g_iret (v := (nI (0))) hx hb hr hlk mW_w mX_x hB hP hS (⟨(cI_f (q := inR x n ∧ ¬ y < 0 ∧ ¬ nI 512 < y ∧ ¬ z < 0 ∧ z ≤ nI 512 - y) (fun w => w.1.2 c_9)).symm, _, _, rfl⟩) d_M_sum_72
    · refine lv_iload_n hx hb d_M_sum_12 rfl (lv_at hl 2 rfl) ?_
      refine lv_if_lt (tgt := 38) hx hb d_M_sum_13 (by decide) (fun c_13 => ?_) (fun c_13 => ?_)
      · refine lv_iconst (v := nI 0) hx hb d_M_sum_38 rfl ?_
        refine lv_istore (lv' := [(4, .int (nI (0))), (0, .ref (k 0)), (1, .int (x)), (2, .int (y)), (3, .int (z))]) hx hb d_M_sum_39 hl (by decide) rfl (fun ls hl => ?_)
        refine lv_iload hx hb d_M_sum_41 (lv_at hl 0 rfl) ?_
        refine lv_if_eq (tgt := 71) hx hb d_M_sum_43 (by decide) (fun _ => ?_) (fun c9 => absurd (by decide) c9)
        refine lv_iconst (v := nI 0) hx hb d_M_sum_71 rfl ?_
        exact g_iret (v := (nI (0))) hx hb hr hlk mW_w mX_x hB hP hS (⟨(cI_f (q := inR x n ∧ ¬ y < 0 ∧ ¬ nI 512 < y ∧ ¬ z < 0 ∧ z ≤ nI 512 - y) (fun w => w.2.1 c_13)).symm, _, _, rfl⟩) d_M_sum_72
      · refine lv_iload_n hx hb d_M_sum_16 rfl (lv_at hl 2 rfl) ?_
        refine lv_sipush (v := nI 512) hx hb d_M_sum_17 rfl ?_
        refine lv_icmp_gt (tgt := 38) hx hb d_M_sum_20 (by decide) (fun c_20 => ?_) (fun c_20 => ?_)
        · refine lv_iconst (v := nI 0) hx hb d_M_sum_38 rfl ?_
          refine lv_istore (lv' := [(4, .int (nI (0))), (0, .ref (k 0)), (1, .int (x)), (2, .int (y)), (3, .int (z))]) hx hb d_M_sum_39 hl (by decide) rfl (fun ls hl => ?_)
          refine lv_iload hx hb d_M_sum_41 (lv_at hl 0 rfl) ?_
          refine lv_if_eq (tgt := 71) hx hb d_M_sum_43 (by decide) (fun _ => ?_) (fun c9 => absurd (by decide) c9)
          refine lv_iconst (v := nI 0) hx hb d_M_sum_71 rfl ?_
          exact g_iret (v := (nI (0))) hx hb hr hlk mW_w mX_x hB hP hS (⟨(cI_f (q := inR x n ∧ ¬ y < 0 ∧ ¬ nI 512 < y ∧ ¬ z < 0 ∧ z ≤ nI 512 - y) (fun w => w.2.2.1 c_20)).symm, _, _, rfl⟩) d_M_sum_72
        · refine lv_iload_n hx hb d_M_sum_23 rfl (lv_at hl 3 rfl) ?_
          refine lv_if_lt (tgt := 38) hx hb d_M_sum_24 (by decide) (fun c_24 => ?_) (fun c_24 => ?_)
          · refine lv_iconst (v := nI 0) hx hb d_M_sum_38 rfl ?_
            refine lv_istore (lv' := [(4, .int (nI (0))), (0, .ref (k 0)), (1, .int (x)), (2, .int (y)), (3, .int (z))]) hx hb d_M_sum_39 hl (by decide) rfl (fun ls hl => ?_)
            refine lv_iload hx hb d_M_sum_41 (lv_at hl 0 rfl) ?_
            refine lv_if_eq (tgt := 71) hx hb d_M_sum_43 (by decide) (fun _ => ?_) (fun c9 => absurd (by decide) c9)
            refine lv_iconst (v := nI 0) hx hb d_M_sum_71 rfl ?_
            exact g_iret (v := (nI (0))) hx hb hr hlk mW_w mX_x hB hP hS (⟨(cI_f (q := inR x n ∧ ¬ y < 0 ∧ ¬ nI 512 < y ∧ ¬ z < 0 ∧ z ≤ nI 512 - y) (fun w => w.2.2.2.1 c_24)).symm, _, _, rfl⟩) d_M_sum_72
          · refine lv_iload_n hx hb d_M_sum_27 rfl (lv_at hl 3 rfl) ?_
            refine lv_sipush (v := nI 512) hx hb d_M_sum_28 rfl ?_
            refine lv_icmp_gt (tgt := 38) hx hb d_M_sum_31 (by decide) (fun c_31 => ?_) (fun c_31 => ?_)
            · refine lv_iconst (v := nI 0) hx hb d_M_sum_38 rfl ?_
              refine lv_istore (lv' := [(4, .int (nI (0))), (0, .ref (k 0)), (1, .int (x)), (2, .int (y)), (3, .int (z))]) hx hb d_M_sum_39 hl (by decide) rfl (fun ls hl => ?_)
              refine lv_iload hx hb d_M_sum_41 (lv_at hl 0 rfl) ?_
              refine lv_if_eq (tgt := 71) hx hb d_M_sum_43 (by decide) (fun _ => ?_) (fun c9 => absurd (by decide) c9)
              refine lv_iconst (v := nI 0) hx hb d_M_sum_71 rfl ?_
              exact g_iret (v := (nI (0))) hx hb hr hlk mW_w mX_x hB hP hS (⟨(cI_f (q := inR x n ∧ ¬ y < 0 ∧ ¬ nI 512 < y ∧ ¬ z < 0 ∧ z ≤ nI 512 - y) (fun w => su_big w c_31)).symm, _, _, rfl⟩) d_M_sum_72
            · obtain ⟨a, ha, rfl⟩ := inR_ex (by omega) ⟨c_1, c_9⟩
              obtain ⟨b, hb2, rfl⟩ := up_ex (by decide) c_13 c_20
              obtain ⟨g, hg, rfl⟩ := up_ex (by decide) c_24 c_31
              refine lv_iconst (v := nI 1) hx hb d_M_sum_34 rfl ?_
              refine lv_goto (tgt := 39) hx hb d_M_sum_35 (by decide) ?_
              refine lv_istore (lv' := [(4, .int (nI (1))), (0, .ref (k 0)), (1, .int (nI (a))), (2, .int (nI (b))), (3, .int (nI (g)))]) hx hb d_M_sum_39 hl (by decide) rfl (fun ls hl => ?_)
              refine lv_iload hx hb d_M_sum_41 (lv_at hl 0 rfl) ?_
              refine lv_if_eq (tgt := 71) hx hb d_M_sum_43 (by decide) (fun c9 => absurd c9 (by decide)) (fun _ => ?_)
              refine lv_iload_n hx hb d_M_sum_46 rfl (lv_at hl 3 rfl) ?_
              refine lv_iload_n hx hb d_M_sum_47 rfl (lv_at hl 4 rfl) ?_
              refine lv_iaddN hx hb d_M_sum_48 ?_
              refine lv_sipush (v := nI 512) hx hb d_M_sum_49 rfl ?_
              refine lv_icmp_gt (tgt := 71) hx hb d_M_sum_52 (by decide) (fun c_52 => ?_) (fun c_52 => ?_)
              · have c2 : 512 < b + g := (nI_ltI (by omega) (by omega)).mp c_52
                refine lv_iconst (v := nI 0) hx hb d_M_sum_71 rfl ?_
                exact g_iret (v := (nI (0))) hx hb hr hlk mW_w mX_x hB hP hS (⟨(cI_f (q := inR (nI a) n ∧ ¬ (nI b) < 0 ∧ ¬ nI 512 < (nI b) ∧ ¬ (nI g) < 0 ∧ (nI g) ≤ nI 512 - (nI b)) (fun w => by have q := w.2.2.2.2; rw [pk_sub (by omega)] at q; have := (nI_leI (by omega) (by omega)).mp q; omega)).symm, _, _, rfl⟩) d_M_sum_72
              · have c2 : b + g ≤ 512 := Nat.not_lt.mp (fun z => c_52 (nI_lt z (by omega)))
                refine lv_aload_n hx hb d_M_sum_55 rfl (lv_at hl 1 rfl) ?_
                refine lv_sipush (v := nI 512) hx hb d_M_sum_56 rfl ?_
                refine lv_iload_n hx hb d_M_sum_59 rfl (lv_at hl 2 rfl) ?_
                refine lv_imulC hx hb d_M_sum_60 ?_
                refine lv_iload_n hx hb d_M_sum_61 rfl (lv_at hl 3 rfl) ?_
                refine lv_iaddN hx hb d_M_sum_62 ?_
                refine lv_iload_n hx hb d_M_sum_63 rfl (lv_at hl 4 rfl) ?_
                refine lv_iconst (v := -1) hx hb d_M_sum_64 rfl ?_
                refine g_callVi (As := [.int (nI ((a * 512) + b)), .int (nI (g)), .int (-1)]) (rest := []) ⟨hx, hb, hml, hown, hts⟩ (C := R_M) (index := 42) (c_M_sumOf0 l D k cI n A hn hn2 (d) (t) (mk) ((a * 512) + b) (g) (by omega)) (cwV 3 hts (gd_V m_438 m_440 m_15 m_33 m_441) rfl rfl rfl hd_M_sumOf ⟨Nat.le_of_ble_eq_true rfl, Nat.le_of_ble_eq_true rfl⟩) mW_w mX_x hB hP hS (ci := 3) rfl (0) rfl rfl hl.1 rfl (Nat.le_of_ble_eq_true rfl) d_M_sum_65 ⟨Nat.zero_le _, Nat.zero_le _⟩ (fun r_ v_ H locs hw hP hS => ?_)
                obtain ⟨hw1, hw2⟩ := hw; have hw1 := hw1.symm; have hw2 := hw2.symm; subst hw1; subst hw2
                refine lv_goto (tgt := 72) hx hb d_M_sum_68 (by decide) ?_
                exact g_iret (v := (smO d ((a * 512) + b) g)) hx hb hr hlk mW_w mX_x hB hP hS (⟨by rw [suR, cI_t ⟨⟨c_1, c_9⟩, c_13, c_20, c_24, by rw [pk_sub (by omega)]; exact nI_le (by omega) (by omega)⟩, cl_nI (by omega), cl_nI (by omega), cl_nI (by omega)], _, _, rfl⟩) d_M_sum_72
abbrev w_M_guard : List Cond := .code y_M_guard b_M_guard 3 (some .boolean) :: ALL
abbrev rm_M_guard : Room := { frames := 1, cells := 0, slots := 0, locals := 25 }
theorem hd_M_guard : y_M_guard.cls = R_M ∧ y_M_guard.cls ≠ "java/lang/invoke/MethodHandle" ∧ y_M_guard.cls ≠ "java/lang/invoke/VarHandle" ∧ (parseMethodDescriptor y_M_guard.desc).map (fun d => d.parameters.length) = some 0 := by decide +kernel
set_option maxHeartbeats 4000000 in
set_option maxRecDepth 100000 in
theorem c_M_guard (l : Launch) (D : va_G) (k : Nat → Nat) (cI : Nat → ClassId) (n : Nat) (A : Nat → Prop) (hn : 12 ≤ n) (hn2 : n ≤ 24) (d t mk : Nat → BitVec 8)  : Met l y_M_guard w_M_guard rm_M_guard (va_Pc [.ref (k 0)] (mB D k cI n A (mU d t mk))) (va_Qi (fun r v => r = bI (gdR n d) ∧ v = mU d t mk) (mB D k cI n A) A) 0 0 A := by
  refine g_ofW (cc := b_M_guard) (maxL := 3) (ret := (some .boolean)) (by decide) rfl (Nat.le_of_ble_eq_true rfl) ?_
  intro p e s m below meth c ls hx hb hml hr hlk hown hts hnm hB hl
  have hown : s.vm.findClass R_M = some m.cls := hown
  have hP := hB.1
  have hK := hB.2.1
  obtain ⟨H, hH⟩ : ∃ H, H = s.heap := ⟨_, rfl⟩
  have hS : va_S A s.heap H [] := by rw [hH]; exact va_S.rf
  rw [← hH] at hP ⊢
  have hl : lv_has ls 3 [(0, .ref (k 0))] := hl
  have z1 : mSz 1 = 12288 := rfl
  have z2 : mSz 2 = 1024 := rfl
  have z3 : mSz 3 = 16 := rfl
  refine lv_aload_n hx hb d_M_guard_0 rfl (lv_at hl 0 rfl) ?_
  refine va_get (D := D) (ci := 3) (v := .ref (k 1)) (C := R_M) (T := F_M) (N := 4) hx hb hts (fun w h => .tail _ (fi_M w h)) hown hK hP 0 rfl rfl 1 (by decide) (hts _ (.tail _ m_405)) (fun _ h9 => h9) rfl d_M_guard_1 ?_
  refine lv_sipush (v := nI 510) hx hb d_M_guard_4 rfl ?_
  refine m_iald hx hb hB hP (i := 1) (by decide) (by decide) (a := 510) (by omega) d_M_guard_7 ?_
  refine lv_bipush (v := nI 85) hx hb d_M_guard_8 rfl ?_
  refine lv_icmp_ne (tgt := 83) hx hb d_M_guard_10 (by decide) (fun c_10 => ?_) (fun c_10 => ?_)
  · refine lv_iconst (v := nI 0) hx hb d_M_guard_83 rfl ?_
    refine lv_istore_n (lv' := [(1, .int (nI (0))), (0, .ref (k 0))]) hx hb d_M_guard_84 rfl hl (by decide) rfl (fun ls hl => ?_)
    refine lv_sipush (v := nI 462) hx hb d_M_guard_85 rfl ?_
    refine lv_istore_n (lv' := [(2, .int (nI (462))), (1, .int (nI (0))), (0, .ref (k 0))]) hx hb d_M_guard_88 rfl hl (by decide) rfl (fun ls hl => ?_)
    have lp : ∀ (q : Nat) (j : Nat) (x : Int32) (H : Heap) (locs : List Loc) (ls : Array Slot), (j ≤ 48) → (48 + 1 ≤ j + q) → (x = bI ((zx (d 510) = nI 85 ∧ zx (d 511) = nI 170 ∧ zx (d 450) = nI 238 ∧ num d 454 4 = 1 ∧ num d 458 4 = (nI (n - 1)).toInt64) ∧ isZ d 462 j)) → va_P D classes (mW k cI n (mU (d) (t) (mk))) H → va_S A s.heap H locs → lv_has ls 3 [(2, .int (nI (462 + j))), (1, .int (x)), (0, .ref (k 0))] → W p l e rm_M_guard s m ([.ref (k 0)] : List Value).toArray below meth c H locs 0 0 (MQ below (va_Qi (fun r v => r = bI (gdR n d) ∧ v = mU d t mk) (mB D k cI n A) A) ([.ref (k 0)] : List Value).toArray s 0 0 A) (F0 m 89 ls []) := by
      intro q
      induction q with
      | zero =>
        intro j x H locs ls hi hq hv hP hS hl
        exact absurd hq (by omega)
      | succ q ih =>
        intro j x H locs ls hi hq hv hP hS hl
        refine lv_iload_n hx hb d_M_guard_89 rfl (lv_at hl 0 rfl) ?_
        refine lv_sipush (v := nI 510) hx hb d_M_guard_90 rfl ?_
        refine lv_icmp_ge (tgt := 121) hx hb d_M_guard_93 (by decide) (fun c_93 => ?_) (fun c_93 => ?_)
        · have hik : j = 48 := by have := ge_t (i := 462 + j) (k := 510) (by omega) (by omega) c_93; omega
          refine lv_iload_n hx hb d_M_guard_121 rfl (lv_at hl 1 rfl) ?_
          exact g_zret (v := (x)) hx hb hr (by rw [hv]; exact bI_n _) hlk mW_w mX_x hB hP hS (⟨by rw [hv, hik]; exact bI_c ⟨fun z => ⟨z.1.1, z.1.2.1, z.1.2.2.1, z.1.2.2.2.1, z.1.2.2.2.2, z.2⟩, fun z => ⟨⟨z.1, z.2.1, z.2.2.1, z.2.2.2.1, z.2.2.2.2.1⟩, z.2.2.2.2.2⟩⟩, rfl⟩) d_M_guard_122
        · have hik : j < 48 := by have := ge_f (i := 462 + j) (k := 510) (by omega) (by omega) c_93; omega
          refine lv_iload_n hx hb d_M_guard_96 rfl (lv_at hl 1 rfl) ?_
          refine lv_if_eq (tgt := 113) hx hb d_M_guard_97 (by decide) (fun c_97 => ?_) (fun c_97 => ?_)
          · refine lv_iconst (v := nI 0) hx hb d_M_guard_113 rfl ?_
            refine lv_istore_n (lv' := [(1, .int (nI (0))), (2, .int (nI (462 + j))), (0, .ref (k 0))]) hx hb d_M_guard_114 rfl hl (by decide) rfl (fun ls hl => ?_)
            refine lv_iinc (v := (nI (462 + j + 1))) (lv' := [(2, .int (nI (462 + j + 1))), (1, .int (nI (0))), (0, .ref (k 0))]) hx hb d_M_guard_115 hl (k := 1) rfl (nI_add _ _) (by decide) rfl (fun ls hl => ?_)
            refine lv_goto (tgt := 89) hx hb d_M_guard_118 (by decide) ?_
            exact ih (j + 1) _ _ _ _ (by omega) (by omega) (bI_f (fun z => bI_x hv c_97 ⟨z.1, (isZ_s.mp z.2).1⟩)).symm hP hS (lv_sub hl [0, 1, 2] rfl)
          · refine lv_aload_n hx hb d_M_guard_100 rfl (lv_at hl 2 rfl) ?_
            refine va_get (D := D) (ci := 3) (v := .ref (k 1)) (C := R_M) (T := F_M) (N := 4) hx hb hts (fun w h => .tail _ (fi_M w h)) hown hK hP 0 rfl rfl 1 (by decide) (hts _ (.tail _ m_405)) (fun _ h9 => h9) rfl d_M_guard_101 ?_
            refine lv_iload_n hx hb d_M_guard_104 rfl (lv_at hl 0 rfl) ?_
            refine m_iald hx hb hB hP (i := 1) (by decide) (by decide) (a := 462 + j) (by omega) d_M_guard_105 ?_
            refine lv_if_ne (tgt := 113) hx hb d_M_guard_106 (by decide) (fun c_106 => ?_) (fun c_106 => ?_)
            · refine lv_iconst (v := nI 0) hx hb d_M_guard_113 rfl ?_
              refine lv_istore_n (lv' := [(1, .int (nI (0))), (2, .int (nI (462 + j))), (0, .ref (k 0))]) hx hb d_M_guard_114 rfl hl (by decide) rfl (fun ls hl => ?_)
              refine lv_iinc (v := (nI (462 + j + 1))) (lv' := [(2, .int (nI (462 + j + 1))), (1, .int (nI (0))), (0, .ref (k 0))]) hx hb d_M_guard_115 hl (k := 1) rfl (nI_add _ _) (by decide) rfl (fun ls hl => ?_)
              refine lv_goto (tgt := 89) hx hb d_M_guard_118 (by decide) ?_
              exact ih (j + 1) _ _ _ _ (by omega) (by omega) (bI_f (fun z => c_106 ((zx_0 _).mpr (isZ_s.mp z.2).2))).symm hP hS (lv_sub hl [0, 1, 2] rfl)
            · refine lv_iconst (v := nI 1) hx hb d_M_guard_109 rfl ?_
              refine lv_goto (tgt := 114) hx hb d_M_guard_110 (by decide) ?_
              refine lv_istore_n (lv' := [(1, .int (nI (1))), (2, .int (nI (462 + j))), (0, .ref (k 0))]) hx hb d_M_guard_114 rfl hl (by decide) rfl (fun ls hl => ?_)
              refine lv_iinc (v := (nI (462 + j + 1))) (lv' := [(2, .int (nI (462 + j + 1))), (1, .int (nI (1))), (0, .ref (k 0))]) hx hb d_M_guard_115 hl (k := 1) rfl (nI_add _ _) (by decide) rfl (fun ls hl => ?_)
              refine lv_goto (tgt := 89) hx hb d_M_guard_118 (by decide) ?_
              exact ih (j + 1) _ _ _ _ (by omega) (by omega) (bI_t ⟨(bI_y hv c_97).1, isZ_s.mpr ⟨(bI_y hv c_97).2, (zx_0 _).mp c_106⟩⟩).symm hP hS (lv_sub hl [0, 1, 2] rfl)
    exact lp (48 + 1) 0 _ _ _ _ (Nat.zero_le _) (by omega) (bI_f (fun z => c_10 z.1.1)).symm hP hS (lv_sub hl [0, 1, 2] rfl)
  · refine lv_aload_n hx hb d_M_guard_13 rfl (lv_at hl 0 rfl) ?_
    refine va_get (D := D) (ci := 3) (v := .ref (k 1)) (C := R_M) (T := F_M) (N := 4) hx hb hts (fun w h => .tail _ (fi_M w h)) hown hK hP 0 rfl rfl 1 (by decide) (hts _ (.tail _ m_405)) (fun _ h9 => h9) rfl d_M_guard_14 ?_
    refine lv_sipush (v := nI 511) hx hb d_M_guard_17 rfl ?_
    refine m_iald hx hb hB hP (i := 1) (by decide) (by decide) (a := 511) (by omega) d_M_guard_20 ?_
    refine lv_sipush (v := nI 170) hx hb d_M_guard_21 rfl ?_
    refine lv_icmp_ne (tgt := 83) hx hb d_M_guard_24 (by decide) (fun c_24 => ?_) (fun c_24 => ?_)
    · refine lv_iconst (v := nI 0) hx hb d_M_guard_83 rfl ?_
      refine lv_istore_n (lv' := [(1, .int (nI (0))), (0, .ref (k 0))]) hx hb d_M_guard_84 rfl hl (by decide) rfl (fun ls hl => ?_)
      refine lv_sipush (v := nI 462) hx hb d_M_guard_85 rfl ?_
      refine lv_istore_n (lv' := [(2, .int (nI (462))), (1, .int (nI (0))), (0, .ref (k 0))]) hx hb d_M_guard_88 rfl hl (by decide) rfl (fun ls hl => ?_)
      have lp : ∀ (q : Nat) (j : Nat) (x : Int32) (H : Heap) (locs : List Loc) (ls : Array Slot), (j ≤ 48) → (48 + 1 ≤ j + q) → (x = bI ((zx (d 510) = nI 85 ∧ zx (d 511) = nI 170 ∧ zx (d 450) = nI 238 ∧ num d 454 4 = 1 ∧ num d 458 4 = (nI (n - 1)).toInt64) ∧ isZ d 462 j)) → va_P D classes (mW k cI n (mU (d) (t) (mk))) H → va_S A s.heap H locs → lv_has ls 3 [(2, .int (nI (462 + j))), (1, .int (x)), (0, .ref (k 0))] → W p l e rm_M_guard s m ([.ref (k 0)] : List Value).toArray below meth c H locs 0 0 (MQ below (va_Qi (fun r v => r = bI (gdR n d) ∧ v = mU d t mk) (mB D k cI n A) A) ([.ref (k 0)] : List Value).toArray s 0 0 A) (F0 m 89 ls []) := by
        intro q
        induction q with
        | zero =>
          intro j x H locs ls hi hq hv hP hS hl
          exact absurd hq (by omega)
        | succ q ih =>
          intro j x H locs ls hi hq hv hP hS hl
          refine lv_iload_n hx hb d_M_guard_89 rfl (lv_at hl 0 rfl) ?_
          refine lv_sipush (v := nI 510) hx hb d_M_guard_90 rfl ?_
          refine lv_icmp_ge (tgt := 121) hx hb d_M_guard_93 (by decide) (fun c_93 => ?_) (fun c_93 => ?_)
          · have hik : j = 48 := by have := ge_t (i := 462 + j) (k := 510) (by omega) (by omega) c_93; omega
            refine lv_iload_n hx hb d_M_guard_121 rfl (lv_at hl 1 rfl) ?_
            exact g_zret (v := (x)) hx hb hr (by rw [hv]; exact bI_n _) hlk mW_w mX_x hB hP hS (⟨by rw [hv, hik]; exact bI_c ⟨fun z => ⟨z.1.1, z.1.2.1, z.1.2.2.1, z.1.2.2.2.1, z.1.2.2.2.2, z.2⟩, fun z => ⟨⟨z.1, z.2.1, z.2.2.1, z.2.2.2.1, z.2.2.2.2.1⟩, z.2.2.2.2.2⟩⟩, rfl⟩) d_M_guard_122
          · have hik : j < 48 := by have := ge_f (i := 462 + j) (k := 510) (by omega) (by omega) c_93; omega
            refine lv_iload_n hx hb d_M_guard_96 rfl (lv_at hl 1 rfl) ?_
            refine lv_if_eq (tgt := 113) hx hb d_M_guard_97 (by decide) (fun c_97 => ?_) (fun c_97 => ?_)
            · refine lv_iconst (v := nI 0) hx hb d_M_guard_113 rfl ?_
              refine lv_istore_n (lv' := [(1, .int (nI (0))), (2, .int (nI (462 + j))), (0, .ref (k 0))]) hx hb d_M_guard_114 rfl hl (by decide) rfl (fun ls hl => ?_)
              refine lv_iinc (v := (nI (462 + j + 1))) (lv' := [(2, .int (nI (462 + j + 1))), (1, .int (nI (0))), (0, .ref (k 0))]) hx hb d_M_guard_115 hl (k := 1) rfl (nI_add _ _) (by decide) rfl (fun ls hl => ?_)
              refine lv_goto (tgt := 89) hx hb d_M_guard_118 (by decide) ?_
              exact ih (j + 1) _ _ _ _ (by omega) (by omega) (bI_f (fun z => bI_x hv c_97 ⟨z.1, (isZ_s.mp z.2).1⟩)).symm hP hS (lv_sub hl [0, 1, 2] rfl)
            · refine lv_aload_n hx hb d_M_guard_100 rfl (lv_at hl 2 rfl) ?_
              refine va_get (D := D) (ci := 3) (v := .ref (k 1)) (C := R_M) (T := F_M) (N := 4) hx hb hts (fun w h => .tail _ (fi_M w h)) hown hK hP 0 rfl rfl 1 (by decide) (hts _ (.tail _ m_405)) (fun _ h9 => h9) rfl d_M_guard_101 ?_
              refine lv_iload_n hx hb d_M_guard_104 rfl (lv_at hl 0 rfl) ?_
              refine m_iald hx hb hB hP (i := 1) (by decide) (by decide) (a := 462 + j) (by omega) d_M_guard_105 ?_
              refine lv_if_ne (tgt := 113) hx hb d_M_guard_106 (by decide) (fun c_106 => ?_) (fun c_106 => ?_)
              · refine lv_iconst (v := nI 0) hx hb d_M_guard_113 rfl ?_
                refine lv_istore_n (lv' := [(1, .int (nI (0))), (2, .int (nI (462 + j))), (0, .ref (k 0))]) hx hb d_M_guard_114 rfl hl (by decide) rfl (fun ls hl => ?_)
                refine lv_iinc (v := (nI (462 + j + 1))) (lv' := [(2, .int (nI (462 + j + 1))), (1, .int (nI (0))), (0, .ref (k 0))]) hx hb d_M_guard_115 hl (k := 1) rfl (nI_add _ _) (by decide) rfl (fun ls hl => ?_)
                refine lv_goto (tgt := 89) hx hb d_M_guard_118 (by decide) ?_
                exact ih (j + 1) _ _ _ _ (by omega) (by omega) (bI_f (fun z => c_106 ((zx_0 _).mpr (isZ_s.mp z.2).2))).symm hP hS (lv_sub hl [0, 1, 2] rfl)
              · refine lv_iconst (v := nI 1) hx hb d_M_guard_109 rfl ?_
                refine lv_goto (tgt := 114) hx hb d_M_guard_110 (by decide) ?_
                refine lv_istore_n (lv' := [(1, .int (nI (1))), (2, .int (nI (462 + j))), (0, .ref (k 0))]) hx hb d_M_guard_114 rfl hl (by decide) rfl (fun ls hl => ?_)
                refine lv_iinc (v := (nI (462 + j + 1))) (lv' := [(2, .int (nI (462 + j + 1))), (1, .int (nI (1))), (0, .ref (k 0))]) hx hb d_M_guard_115 hl (k := 1) rfl (nI_add _ _) (by decide) rfl (fun ls hl => ?_)
                refine lv_goto (tgt := 89) hx hb d_M_guard_118 (by decide) ?_
                exact ih (j + 1) _ _ _ _ (by omega) (by omega) (bI_t ⟨(bI_y hv c_97).1, isZ_s.mpr ⟨(bI_y hv c_97).2, (zx_0 _).mp c_106⟩⟩).symm hP hS (lv_sub hl [0, 1, 2] rfl)
      exact lp (48 + 1) 0 _ _ _ _ (Nat.zero_le _) (by omega) (bI_f (fun z => c_24 z.1.2.1)).symm hP hS (lv_sub hl [0, 1, 2] rfl)
    · refine lv_aload_n hx hb d_M_guard_27 rfl (lv_at hl 0 rfl) ?_
      refine va_get (D := D) (ci := 3) (v := .ref (k 1)) (C := R_M) (T := F_M) (N := 4) hx hb hts (fun w h => .tail _ (fi_M w h)) hown hK hP 0 rfl rfl 1 (by decide) (hts _ (.tail _ m_405)) (fun _ h9 => h9) rfl d_M_guard_28 ?_
      refine lv_sipush (v := nI 450) hx hb d_M_guard_31 rfl ?_
      refine m_iald hx hb hB hP (i := 1) (by decide) (by decide) (a := 450) (by omega) d_M_guard_34 ?_
      refine lv_sipush (v := nI 238) hx hb d_M_guard_35 rfl ?_
      refine lv_icmp_ne (tgt := 83) hx hb d_M_guard_38 (by decide) (fun c_38 => ?_) (fun c_38 => ?_)
      · refine lv_iconst (v := nI 0) hx hb d_M_guard_83 rfl ?_
        refine lv_istore_n (lv' := [(1, .int (nI (0))), (0, .ref (k 0))]) hx hb d_M_guard_84 rfl hl (by decide) rfl (fun ls hl => ?_)
        refine lv_sipush (v := nI 462) hx hb d_M_guard_85 rfl ?_
        refine lv_istore_n (lv' := [(2, .int (nI (462))), (1, .int (nI (0))), (0, .ref (k 0))]) hx hb d_M_guard_88 rfl hl (by decide) rfl (fun ls hl => ?_)
        have lp : ∀ (q : Nat) (j : Nat) (x : Int32) (H : Heap) (locs : List Loc) (ls : Array Slot), (j ≤ 48) → (48 + 1 ≤ j + q) → (x = bI ((zx (d 510) = nI 85 ∧ zx (d 511) = nI 170 ∧ zx (d 450) = nI 238 ∧ num d 454 4 = 1 ∧ num d 458 4 = (nI (n - 1)).toInt64) ∧ isZ d 462 j)) → va_P D classes (mW k cI n (mU (d) (t) (mk))) H → va_S A s.heap H locs → lv_has ls 3 [(2, .int (nI (462 + j))), (1, .int (x)), (0, .ref (k 0))] → W p l e rm_M_guard s m ([.ref (k 0)] : List Value).toArray below meth c H locs 0 0 (MQ below (va_Qi (fun r v => r = bI (gdR n d) ∧ v = mU d t mk) (mB D k cI n A) A) ([.ref (k 0)] : List Value).toArray s 0 0 A) (F0 m 89 ls []) := by
          intro q
          induction q with
          | zero =>
            intro j x H locs ls hi hq hv hP hS hl
            exact absurd hq (by omega)
          | succ q ih =>
            intro j x H locs ls hi hq hv hP hS hl
            refine lv_iload_n hx hb d_M_guard_89 rfl (lv_at hl 0 rfl) ?_
            refine lv_sipush (v := nI 510) hx hb d_M_guard_90 rfl ?_
            refine lv_icmp_ge (tgt := 121) hx hb d_M_guard_93 (by decide) (fun c_93 => ?_) (fun c_93 => ?_)
            · have hik : j = 48 := by have := ge_t (i := 462 + j) (k := 510) (by omega) (by omega) c_93; omega
              refine lv_iload_n hx hb d_M_guard_121 rfl (lv_at hl 1 rfl) ?_
              exact g_zret (v := (x)) hx hb hr (by rw [hv]; exact bI_n _) hlk mW_w mX_x hB hP hS (⟨by rw [hv, hik]; exact bI_c ⟨fun z => ⟨z.1.1, z.1.2.1, z.1.2.2.1, z.1.2.2.2.1, z.1.2.2.2.2, z.2⟩, fun z => ⟨⟨z.1, z.2.1, z.2.2.1, z.2.2.2.1, z.2.2.2.2.1⟩, z.2.2.2.2.2⟩⟩, rfl⟩) d_M_guard_122
            · have hik : j < 48 := by have := ge_f (i := 462 + j) (k := 510) (by omega) (by omega) c_93; omega
              refine lv_iload_n hx hb d_M_guard_96 rfl (lv_at hl 1 rfl) ?_
              refine lv_if_eq (tgt := 113) hx hb d_M_guard_97 (by decide) (fun c_97 => ?_) (fun c_97 => ?_)
              · refine lv_iconst (v := nI 0) hx hb d_M_guard_113 rfl ?_
                refine lv_istore_n (lv' := [(1, .int (nI (0))), (2, .int (nI (462 + j))), (0, .ref (k 0))]) hx hb d_M_guard_114 rfl hl (by decide) rfl (fun ls hl => ?_)
                refine lv_iinc (v := (nI (462 + j + 1))) (lv' := [(2, .int (nI (462 + j + 1))), (1, .int (nI (0))), (0, .ref (k 0))]) hx hb d_M_guard_115 hl (k := 1) rfl (nI_add _ _) (by decide) rfl (fun ls hl => ?_)
                refine lv_goto (tgt := 89) hx hb d_M_guard_118 (by decide) ?_
                exact ih (j + 1) _ _ _ _ (by omega) (by omega) (bI_f (fun z => bI_x hv c_97 ⟨z.1, (isZ_s.mp z.2).1⟩)).symm hP hS (lv_sub hl [0, 1, 2] rfl)
              · refine lv_aload_n hx hb d_M_guard_100 rfl (lv_at hl 2 rfl) ?_
                refine va_get (D := D) (ci := 3) (v := .ref (k 1)) (C := R_M) (T := F_M) (N := 4) hx hb hts (fun w h => .tail _ (fi_M w h)) hown hK hP 0 rfl rfl 1 (by decide) (hts _ (.tail _ m_405)) (fun _ h9 => h9) rfl d_M_guard_101 ?_
                refine lv_iload_n hx hb d_M_guard_104 rfl (lv_at hl 0 rfl) ?_
                refine m_iald hx hb hB hP (i := 1) (by decide) (by decide) (a := 462 + j) (by omega) d_M_guard_105 ?_
                refine lv_if_ne (tgt := 113) hx hb d_M_guard_106 (by decide) (fun c_106 => ?_) (fun c_106 => ?_)
                · refine lv_iconst (v := nI 0) hx hb d_M_guard_113 rfl ?_
                  refine lv_istore_n (lv' := [(1, .int (nI (0))), (2, .int (nI (462 + j))), (0, .ref (k 0))]) hx hb d_M_guard_114 rfl hl (by decide) rfl (fun ls hl => ?_)
                  refine lv_iinc (v := (nI (462 + j + 1))) (lv' := [(2, .int (nI (462 + j + 1))), (1, .int (nI (0))), (0, .ref (k 0))]) hx hb d_M_guard_115 hl (k := 1) rfl (nI_add _ _) (by decide) rfl (fun ls hl => ?_)
                  refine lv_goto (tgt := 89) hx hb d_M_guard_118 (by decide) ?_
                  exact ih (j + 1) _ _ _ _ (by omega) (by omega) (bI_f (fun z => c_106 ((zx_0 _).mpr (isZ_s.mp z.2).2))).symm hP hS (lv_sub hl [0, 1, 2] rfl)
                · refine lv_iconst (v := nI 1) hx hb d_M_guard_109 rfl ?_
                  refine lv_goto (tgt := 114) hx hb d_M_guard_110 (by decide) ?_
                  refine lv_istore_n (lv' := [(1, .int (nI (1))), (2, .int (nI (462 + j))), (0, .ref (k 0))]) hx hb d_M_guard_114 rfl hl (by decide) rfl (fun ls hl => ?_)
                  refine lv_iinc (v := (nI (462 + j + 1))) (lv' := [(2, .int (nI (462 + j + 1))), (1, .int (nI (1))), (0, .ref (k 0))]) hx hb d_M_guard_115 hl (k := 1) rfl (nI_add _ _) (by decide) rfl (fun ls hl => ?_)
                  refine lv_goto (tgt := 89) hx hb d_M_guard_118 (by decide) ?_
                  exact ih (j + 1) _ _ _ _ (by omega) (by omega) (bI_t ⟨(bI_y hv c_97).1, isZ_s.mpr ⟨(bI_y hv c_97).2, (zx_0 _).mp c_106⟩⟩).symm hP hS (lv_sub hl [0, 1, 2] rfl)
        exact lp (48 + 1) 0 _ _ _ _ (Nat.zero_le _) (by omega) (bI_f (fun z => c_38 z.1.2.2.1)).symm hP hS (lv_sub hl [0, 1, 2] rfl)
      · refine lv_aload_n hx hb d_M_guard_41 rfl (lv_at hl 0 rfl) ?_
        refine va_get (D := D) (ci := 3) (v := .ref (k 1)) (C := R_M) (T := F_M) (N := 4) hx hb hts (fun w h => .tail _ (fi_M w h)) hown hK hP 0 rfl rfl 1 (by decide) (hts _ (.tail _ m_405)) (fun _ h9 => h9) rfl d_M_guard_42 ?_
        refine lv_sipush (v := nI 454) hx hb d_M_guard_45 rfl ?_
        refine lv_iconst (v := nI 4) hx hb d_M_guard_48 rfl ?_
        refine g_callSl (As := [.ref (k 1), .int (nI (454)), .int (nI (4))]) (rest := []) ⟨hx, hb, hml, hown, hts⟩ (index := 53) (c_M_get l D k cI n A hn hn2 (mU (d) (t) (mk)) (1) (by omega) (by omega) (454) (4) (by omega)) (cwS 3 hts (gd_S m_450 m_451 m_33 m_452) rfl rfl rfl hd_M_get ⟨Nat.le_of_ble_eq_true rfl, Nat.le_of_ble_eq_true rfl⟩) mW_w mX_x hB hP hS rfl hl.1 rfl (Nat.le_of_ble_eq_true rfl) d_M_guard_49 ⟨Nat.zero_le _, Nat.zero_le _⟩ (fun r_ v_ H locs hw hP hS => ?_)
        obtain ⟨hw1, hw2⟩ := hw; have hw1 : r_ = (num (d) 454 4) := hw1; have hw1 := hw1.symm; have hw2 := hw2.symm; subst hw1; subst hw2
        refine lv_lconst (v := 1) hx hb d_M_guard_52 rfl ?_
        refine W.lcmp hx hb d_M_guard_53 ?_
        refine lv_if_ne (tgt := 83) hx hb d_M_guard_54 (by decide) (fun c_54 => ?_) (fun c_54 => ?_)
        · have c_54 := fun z => c_54 ((lg_cmp_eq _ _).mpr z)
          refine lv_iconst (v := nI 0) hx hb d_M_guard_83 rfl ?_
          refine lv_istore_n (lv' := [(1, .int (nI (0))), (0, .ref (k 0))]) hx hb d_M_guard_84 rfl hl (by decide) rfl (fun ls hl => ?_)
          refine lv_sipush (v := nI 462) hx hb d_M_guard_85 rfl ?_
          refine lv_istore_n (lv' := [(2, .int (nI (462))), (1, .int (nI (0))), (0, .ref (k 0))]) hx hb d_M_guard_88 rfl hl (by decide) rfl (fun ls hl => ?_)
          have lp : ∀ (q : Nat) (j : Nat) (x : Int32) (H : Heap) (locs : List Loc) (ls : Array Slot), (j ≤ 48) → (48 + 1 ≤ j + q) → (x = bI ((zx (d 510) = nI 85 ∧ zx (d 511) = nI 170 ∧ zx (d 450) = nI 238 ∧ num d 454 4 = 1 ∧ num d 458 4 = (nI (n - 1)).toInt64) ∧ isZ d 462 j)) → va_P D classes (mW k cI n (mU (d) (t) (mk))) H → va_S A s.heap H locs → lv_has ls 3 [(2, .int (nI (462 + j))), (1, .int (x)), (0, .ref (k 0))] → W p l e rm_M_guard s m ([.ref (k 0)] : List Value).toArray below meth c H locs 0 0 (MQ below (va_Qi (fun r v => r = bI (gdR n d) ∧ v = mU d t mk) (mB D k cI n A) A) ([.ref (k 0)] : List Value).toArray s 0 0 A) (F0 m 89 ls []) := by
            intro q
            induction q with
            | zero =>
              intro j x H locs ls hi hq hv hP hS hl
              exact absurd hq (by omega)
            | succ q ih =>
              intro j x H locs ls hi hq hv hP hS hl
              refine lv_iload_n hx hb d_M_guard_89 rfl (lv_at hl 0 rfl) ?_
              refine lv_sipush (v := nI 510) hx hb d_M_guard_90 rfl ?_
              refine lv_icmp_ge (tgt := 121) hx hb d_M_guard_93 (by decide) (fun c_93 => ?_) (fun c_93 => ?_)
              · have hik : j = 48 := by have := ge_t (i := 462 + j) (k := 510) (by omega) (by omega) c_93; omega
                refine lv_iload_n hx hb d_M_guard_121 rfl (lv_at hl 1 rfl) ?_
                exact g_zret (v := (x)) hx hb hr (by rw [hv]; exact bI_n _) hlk mW_w mX_x hB hP hS (⟨by rw [hv, hik]; exact bI_c ⟨fun z => ⟨z.1.1, z.1.2.1, z.1.2.2.1, z.1.2.2.2.1, z.1.2.2.2.2, z.2⟩, fun z => ⟨⟨z.1, z.2.1, z.2.2.1, z.2.2.2.1, z.2.2.2.2.1⟩, z.2.2.2.2.2⟩⟩, rfl⟩) d_M_guard_122
              · have hik : j < 48 := by have := ge_f (i := 462 + j) (k := 510) (by omega) (by omega) c_93; omega
                refine lv_iload_n hx hb d_M_guard_96 rfl (lv_at hl 1 rfl) ?_
                refine lv_if_eq (tgt := 113) hx hb d_M_guard_97 (by decide) (fun c_97 => ?_) (fun c_97 => ?_)
                · refine lv_iconst (v := nI 0) hx hb d_M_guard_113 rfl ?_
                  refine lv_istore_n (lv' := [(1, .int (nI (0))), (2, .int (nI (462 + j))), (0, .ref (k 0))]) hx hb d_M_guard_114 rfl hl (by decide) rfl (fun ls hl => ?_)
                  refine lv_iinc (v := (nI (462 + j + 1))) (lv' := [(2, .int (nI (462 + j + 1))), (1, .int (nI (0))), (0, .ref (k 0))]) hx hb d_M_guard_115 hl (k := 1) rfl (nI_add _ _) (by decide) rfl (fun ls hl => ?_)
                  refine lv_goto (tgt := 89) hx hb d_M_guard_118 (by decide) ?_
                  exact ih (j + 1) _ _ _ _ (by omega) (by omega) (bI_f (fun z => bI_x hv c_97 ⟨z.1, (isZ_s.mp z.2).1⟩)).symm hP hS (lv_sub hl [0, 1, 2] rfl)
                · refine lv_aload_n hx hb d_M_guard_100 rfl (lv_at hl 2 rfl) ?_
                  refine va_get (D := D) (ci := 3) (v := .ref (k 1)) (C := R_M) (T := F_M) (N := 4) hx hb hts (fun w h => .tail _ (fi_M w h)) hown hK hP 0 rfl rfl 1 (by decide) (hts _ (.tail _ m_405)) (fun _ h9 => h9) rfl d_M_guard_101 ?_
                  refine lv_iload_n hx hb d_M_guard_104 rfl (lv_at hl 0 rfl) ?_
                  refine m_iald hx hb hB hP (i := 1) (by decide) (by decide) (a := 462 + j) (by omega) d_M_guard_105 ?_
                  refine lv_if_ne (tgt := 113) hx hb d_M_guard_106 (by decide) (fun c_106 => ?_) (fun c_106 => ?_)
                  · refine lv_iconst (v := nI 0) hx hb d_M_guard_113 rfl ?_
                    refine lv_istore_n (lv' := [(1, .int (nI (0))), (2, .int (nI (462 + j))), (0, .ref (k 0))]) hx hb d_M_guard_114 rfl hl (by decide) rfl (fun ls hl => ?_)
                    refine lv_iinc (v := (nI (462 + j + 1))) (lv' := [(2, .int (nI (462 + j + 1))), (1, .int (nI (0))), (0, .ref (k 0))]) hx hb d_M_guard_115 hl (k := 1) rfl (nI_add _ _) (by decide) rfl (fun ls hl => ?_)
                    refine lv_goto (tgt := 89) hx hb d_M_guard_118 (by decide) ?_
                    exact ih (j + 1) _ _ _ _ (by omega) (by omega) (bI_f (fun z => c_106 ((zx_0 _).mpr (isZ_s.mp z.2).2))).symm hP hS (lv_sub hl [0, 1, 2] rfl)
                  · refine lv_iconst (v := nI 1) hx hb d_M_guard_109 rfl ?_
                    refine lv_goto (tgt := 114) hx hb d_M_guard_110 (by decide) ?_
                    refine lv_istore_n (lv' := [(1, .int (nI (1))), (2, .int (nI (462 + j))), (0, .ref (k 0))]) hx hb d_M_guard_114 rfl hl (by decide) rfl (fun ls hl => ?_)
                    refine lv_iinc (v := (nI (462 + j + 1))) (lv' := [(2, .int (nI (462 + j + 1))), (1, .int (nI (1))), (0, .ref (k 0))]) hx hb d_M_guard_115 hl (k := 1) rfl (nI_add _ _) (by decide) rfl (fun ls hl => ?_)
                    refine lv_goto (tgt := 89) hx hb d_M_guard_118 (by decide) ?_
                    exact ih (j + 1) _ _ _ _ (by omega) (by omega) (bI_t ⟨(bI_y hv c_97).1, isZ_s.mpr ⟨(bI_y hv c_97).2, (zx_0 _).mp c_106⟩⟩).symm hP hS (lv_sub hl [0, 1, 2] rfl)
          exact lp (48 + 1) 0 _ _ _ _ (Nat.zero_le _) (by omega) (bI_f (fun z => c_54 z.1.2.2.2.1)).symm hP hS (lv_sub hl [0, 1, 2] rfl)
        · have c_54 := (lg_cmp_eq _ _).mp c_54
          refine lv_aload_n hx hb d_M_guard_57 rfl (lv_at hl 0 rfl) ?_
          refine va_get (D := D) (ci := 3) (v := .ref (k 1)) (C := R_M) (T := F_M) (N := 4) hx hb hts (fun w h => .tail _ (fi_M w h)) hown hK hP 0 rfl rfl 1 (by decide) (hts _ (.tail _ m_405)) (fun _ h9 => h9) rfl d_M_guard_58 ?_
          refine lv_sipush (v := nI 458) hx hb d_M_guard_61 rfl ?_
          refine lv_iconst (v := nI 4) hx hb d_M_guard_64 rfl ?_
          refine g_callSl (As := [.ref (k 1), .int (nI (458)), .int (nI (4))]) (rest := []) ⟨hx, hb, hml, hown, hts⟩ (index := 53) (c_M_get l D k cI n A hn hn2 (mU (d) (t) (mk)) (1) (by omega) (by omega) (458) (4) (by omega)) (cwS 3 hts (gd_S m_450 m_451 m_33 m_452) rfl rfl rfl hd_M_get ⟨Nat.le_of_ble_eq_true rfl, Nat.le_of_ble_eq_true rfl⟩) mW_w mX_x hB hP hS rfl hl.1 rfl (Nat.le_of_ble_eq_true rfl) d_M_guard_65 ⟨Nat.zero_le _, Nat.zero_le _⟩ (fun r_ v_ H locs hw hP hS => ?_)
          obtain ⟨hw1, hw2⟩ := hw; have hw1 : r_ = (num (d) 458 4) := hw1; have hw1 := hw1.symm; have hw2 := hw2.symm; subst hw1; subst hw2
          refine lv_aload_n hx hb d_M_guard_68 rfl (lv_at hl 0 rfl) ?_
          refine va_get (D := D) (ci := 3) (v := .int (nI (n))) (C := R_M) (T := F_M) (N := 4) hx hb hts (fun w h => .tail _ (fi_M w h)) hown hK hP 0 rfl rfl 0 (by decide) (hts _ (.tail _ m_404)) (fun _ h9 => h9) rfl d_M_guard_69 ?_
          refine lv_iconst (v := nI 1) hx hb d_M_guard_72 rfl ?_
          refine lv_isubN hx hb d_M_guard_73 (by omega) ?_
          refine lv_i2l hx hb d_M_guard_74 rfl ?_
          refine W.lcmp hx hb d_M_guard_75 ?_
          refine lv_if_ne (tgt := 83) hx hb d_M_guard_76 (by decide) (fun c_76 => ?_) (fun c_76 => ?_)
          · have c_76 := fun z => c_76 ((lg_cmp_eq _ _).mpr z)
            refine lv_iconst (v := nI 0) hx hb d_M_guard_83 rfl ?_
            refine lv_istore_n (lv' := [(1, .int (nI (0))), (0, .ref (k 0))]) hx hb d_M_guard_84 rfl hl (by decide) rfl (fun ls hl => ?_)
            refine lv_sipush (v := nI 462) hx hb d_M_guard_85 rfl ?_
            refine lv_istore_n (lv' := [(2, .int (nI (462))), (1, .int (nI (0))), (0, .ref (k 0))]) hx hb d_M_guard_88 rfl hl (by decide) rfl (fun ls hl => ?_)
            have lp : ∀ (q : Nat) (j : Nat) (x : Int32) (H : Heap) (locs : List Loc) (ls : Array Slot), (j ≤ 48) → (48 + 1 ≤ j + q) → (x = bI ((zx (d 510) = nI 85 ∧ zx (d 511) = nI 170 ∧ zx (d 450) = nI 238 ∧ num d 454 4 = 1 ∧ num d 458 4 = (nI (n - 1)).toInt64) ∧ isZ d 462 j)) → va_P D classes (mW k cI n (mU (d) (t) (mk))) H → va_S A s.heap H locs → lv_has ls 3 [(2, .int (nI (462 + j))), (1, .int (x)), (0, .ref (k 0))] → W p l e rm_M_guard s m ([.ref (k 0)] : List Value).toArray below meth c H locs 0 0 (MQ below (va_Qi (fun r v => r = bI (gdR n d) ∧ v = mU d t mk) (mB D k cI n A) A) ([.ref (k 0)] : List Value).toArray s 0 0 A) (F0 m 89 ls []) := by
              intro q
              induction q with
              | zero =>
                intro j x H locs ls hi hq hv hP hS hl
                exact absurd hq (by omega)
              | succ q ih =>
                intro j x H locs ls hi hq hv hP hS hl
                refine lv_iload_n hx hb d_M_guard_89 rfl (lv_at hl 0 rfl) ?_
                refine lv_sipush (v := nI 510) hx hb d_M_guard_90 rfl ?_
                refine lv_icmp_ge (tgt := 121) hx hb d_M_guard_93 (by decide) (fun c_93 => ?_) (fun c_93 => ?_)
                · have hik : j = 48 := by have := ge_t (i := 462 + j) (k := 510) (by omega) (by omega) c_93; omega
                  refine lv_iload_n hx hb d_M_guard_121 rfl (lv_at hl 1 rfl) ?_
                  exact g_zret (v := (x)) hx hb hr (by rw [hv]; exact bI_n _) hlk mW_w mX_x hB hP hS (⟨by rw [hv, hik]; exact bI_c ⟨fun z => ⟨z.1.1, z.1.2.1, z.1.2.2.1, z.1.2.2.2.1, z.1.2.2.2.2, z.2⟩, fun z => ⟨⟨z.1, z.2.1, z.2.2.1, z.2.2.2.1, z.2.2.2.2.1⟩, z.2.2.2.2.2⟩⟩, rfl⟩) d_M_guard_122
                · have hik : j < 48 := by have := ge_f (i := 462 + j) (k := 510) (by omega) (by omega) c_93; omega
                  refine lv_iload_n hx hb d_M_guard_96 rfl (lv_at hl 1 rfl) ?_
                  refine lv_if_eq (tgt := 113) hx hb d_M_guard_97 (by decide) (fun c_97 => ?_) (fun c_97 => ?_)
                  · refine lv_iconst (v := nI 0) hx hb d_M_guard_113 rfl ?_
                    refine lv_istore_n (lv' := [(1, .int (nI (0))), (2, .int (nI (462 + j))), (0, .ref (k 0))]) hx hb d_M_guard_114 rfl hl (by decide) rfl (fun ls hl => ?_)
                    refine lv_iinc (v := (nI (462 + j + 1))) (lv' := [(2, .int (nI (462 + j + 1))), (1, .int (nI (0))), (0, .ref (k 0))]) hx hb d_M_guard_115 hl (k := 1) rfl (nI_add _ _) (by decide) rfl (fun ls hl => ?_)
                    refine lv_goto (tgt := 89) hx hb d_M_guard_118 (by decide) ?_
                    exact ih (j + 1) _ _ _ _ (by omega) (by omega) (bI_f (fun z => bI_x hv c_97 ⟨z.1, (isZ_s.mp z.2).1⟩)).symm hP hS (lv_sub hl [0, 1, 2] rfl)
                  · refine lv_aload_n hx hb d_M_guard_100 rfl (lv_at hl 2 rfl) ?_
                    refine va_get (D := D) (ci := 3) (v := .ref (k 1)) (C := R_M) (T := F_M) (N := 4) hx hb hts (fun w h => .tail _ (fi_M w h)) hown hK hP 0 rfl rfl 1 (by decide) (hts _ (.tail _ m_405)) (fun _ h9 => h9) rfl d_M_guard_101 ?_
                    refine lv_iload_n hx hb d_M_guard_104 rfl (lv_at hl 0 rfl) ?_
                    refine m_iald hx hb hB hP (i := 1) (by decide) (by decide) (a := 462 + j) (by omega) d_M_guard_105 ?_
                    refine lv_if_ne (tgt := 113) hx hb d_M_guard_106 (by decide) (fun c_106 => ?_) (fun c_106 => ?_)
                    · refine lv_iconst (v := nI 0) hx hb d_M_guard_113 rfl ?_
                      refine lv_istore_n (lv' := [(1, .int (nI (0))), (2, .int (nI (462 + j))), (0, .ref (k 0))]) hx hb d_M_guard_114 rfl hl (by decide) rfl (fun ls hl => ?_)
                      refine lv_iinc (v := (nI (462 + j + 1))) (lv' := [(2, .int (nI (462 + j + 1))), (1, .int (nI (0))), (0, .ref (k 0))]) hx hb d_M_guard_115 hl (k := 1) rfl (nI_add _ _) (by decide) rfl (fun ls hl => ?_)
                      refine lv_goto (tgt := 89) hx hb d_M_guard_118 (by decide) ?_
                      exact ih (j + 1) _ _ _ _ (by omega) (by omega) (bI_f (fun z => c_106 ((zx_0 _).mpr (isZ_s.mp z.2).2))).symm hP hS (lv_sub hl [0, 1, 2] rfl)
                    · refine lv_iconst (v := nI 1) hx hb d_M_guard_109 rfl ?_
                      refine lv_goto (tgt := 114) hx hb d_M_guard_110 (by decide) ?_
                      refine lv_istore_n (lv' := [(1, .int (nI (1))), (2, .int (nI (462 + j))), (0, .ref (k 0))]) hx hb d_M_guard_114 rfl hl (by decide) rfl (fun ls hl => ?_)
                      refine lv_iinc (v := (nI (462 + j + 1))) (lv' := [(2, .int (nI (462 + j + 1))), (1, .int (nI (1))), (0, .ref (k 0))]) hx hb d_M_guard_115 hl (k := 1) rfl (nI_add _ _) (by decide) rfl (fun ls hl => ?_)
                      refine lv_goto (tgt := 89) hx hb d_M_guard_118 (by decide) ?_
                      exact ih (j + 1) _ _ _ _ (by omega) (by omega) (bI_t ⟨(bI_y hv c_97).1, isZ_s.mpr ⟨(bI_y hv c_97).2, (zx_0 _).mp c_106⟩⟩).symm hP hS (lv_sub hl [0, 1, 2] rfl)
            exact lp (48 + 1) 0 _ _ _ _ (Nat.zero_le _) (by omega) (bI_f (fun z => c_76 z.1.2.2.2.2)).symm hP hS (lv_sub hl [0, 1, 2] rfl)
          · have c_76 := (lg_cmp_eq _ _).mp c_76
            refine lv_iconst (v := nI 1) hx hb d_M_guard_79 rfl ?_
            refine lv_goto (tgt := 84) hx hb d_M_guard_80 (by decide) ?_
            refine lv_istore_n (lv' := [(1, .int (nI (1))), (0, .ref (k 0))]) hx hb d_M_guard_84 rfl hl (by decide) rfl (fun ls hl => ?_)
            refine lv_sipush (v := nI 462) hx hb d_M_guard_85 rfl ?_
            refine lv_istore_n (lv' := [(2, .int (nI (462))), (1, .int (nI (1))), (0, .ref (k 0))]) hx hb d_M_guard_88 rfl hl (by decide) rfl (fun ls hl => ?_)
            have lp : ∀ (q : Nat) (j : Nat) (x : Int32) (H : Heap) (locs : List Loc) (ls : Array Slot), (j ≤ 48) → (48 + 1 ≤ j + q) → (x = bI ((zx (d 510) = nI 85 ∧ zx (d 511) = nI 170 ∧ zx (d 450) = nI 238 ∧ num d 454 4 = 1 ∧ num d 458 4 = (nI (n - 1)).toInt64) ∧ isZ d 462 j)) → va_P D classes (mW k cI n (mU (d) (t) (mk))) H → va_S A s.heap H locs → lv_has ls 3 [(2, .int (nI (462 + j))), (1, .int (x)), (0, .ref (k 0))] → W p l e rm_M_guard s m ([.ref (k 0)] : List Value).toArray below meth c H locs 0 0 (MQ below (va_Qi (fun r v => r = bI (gdR n d) ∧ v = mU d t mk) (mB D k cI n A) A) ([.ref (k 0)] : List Value).toArray s 0 0 A) (F0 m 89 ls []) := by
              intro q
              induction q with
              | zero =>
                intro j x H locs ls hi hq hv hP hS hl
                exact absurd hq (by omega)
              | succ q ih =>
                intro j x H locs ls hi hq hv hP hS hl
                refine lv_iload_n hx hb d_M_guard_89 rfl (lv_at hl 0 rfl) ?_
                refine lv_sipush (v := nI 510) hx hb d_M_guard_90 rfl ?_
                refine lv_icmp_ge (tgt := 121) hx hb d_M_guard_93 (by decide) (fun c_93 => ?_) (fun c_93 => ?_)
                · have hik : j = 48 := by have := ge_t (i := 462 + j) (k := 510) (by omega) (by omega) c_93; omega
                  refine lv_iload_n hx hb d_M_guard_121 rfl (lv_at hl 1 rfl) ?_
                  exact g_zret (v := (x)) hx hb hr (by rw [hv]; exact bI_n _) hlk mW_w mX_x hB hP hS (⟨by rw [hv, hik]; exact bI_c ⟨fun z => ⟨z.1.1, z.1.2.1, z.1.2.2.1, z.1.2.2.2.1, z.1.2.2.2.2, z.2⟩, fun z => ⟨⟨z.1, z.2.1, z.2.2.1, z.2.2.2.1, z.2.2.2.2.1⟩, z.2.2.2.2.2⟩⟩, rfl⟩) d_M_guard_122
                · have hik : j < 48 := by have := ge_f (i := 462 + j) (k := 510) (by omega) (by omega) c_93; omega
                  refine lv_iload_n hx hb d_M_guard_96 rfl (lv_at hl 1 rfl) ?_
                  refine lv_if_eq (tgt := 113) hx hb d_M_guard_97 (by decide) (fun c_97 => ?_) (fun c_97 => ?_)
                  · refine lv_iconst (v := nI 0) hx hb d_M_guard_113 rfl ?_
                    refine lv_istore_n (lv' := [(1, .int (nI (0))), (2, .int (nI (462 + j))), (0, .ref (k 0))]) hx hb d_M_guard_114 rfl hl (by decide) rfl (fun ls hl => ?_)
                    refine lv_iinc (v := (nI (462 + j + 1))) (lv' := [(2, .int (nI (462 + j + 1))), (1, .int (nI (0))), (0, .ref (k 0))]) hx hb d_M_guard_115 hl (k := 1) rfl (nI_add _ _) (by decide) rfl (fun ls hl => ?_)
                    refine lv_goto (tgt := 89) hx hb d_M_guard_118 (by decide) ?_
                    exact ih (j + 1) _ _ _ _ (by omega) (by omega) (bI_f (fun z => bI_x hv c_97 ⟨z.1, (isZ_s.mp z.2).1⟩)).symm hP hS (lv_sub hl [0, 1, 2] rfl)
                  · refine lv_aload_n hx hb d_M_guard_100 rfl (lv_at hl 2 rfl) ?_
                    refine va_get (D := D) (ci := 3) (v := .ref (k 1)) (C := R_M) (T := F_M) (N := 4) hx hb hts (fun w h => .tail _ (fi_M w h)) hown hK hP 0 rfl rfl 1 (by decide) (hts _ (.tail _ m_405)) (fun _ h9 => h9) rfl d_M_guard_101 ?_
                    refine lv_iload_n hx hb d_M_guard_104 rfl (lv_at hl 0 rfl) ?_
                    refine m_iald hx hb hB hP (i := 1) (by decide) (by decide) (a := 462 + j) (by omega) d_M_guard_105 ?_
                    refine lv_if_ne (tgt := 113) hx hb d_M_guard_106 (by decide) (fun c_106 => ?_) (fun c_106 => ?_)
                    · refine lv_iconst (v := nI 0) hx hb d_M_guard_113 rfl ?_
                      refine lv_istore_n (lv' := [(1, .int (nI (0))), (2, .int (nI (462 + j))), (0, .ref (k 0))]) hx hb d_M_guard_114 rfl hl (by decide) rfl (fun ls hl => ?_)
                      refine lv_iinc (v := (nI (462 + j + 1))) (lv' := [(2, .int (nI (462 + j + 1))), (1, .int (nI (0))), (0, .ref (k 0))]) hx hb d_M_guard_115 hl (k := 1) rfl (nI_add _ _) (by decide) rfl (fun ls hl => ?_)
                      refine lv_goto (tgt := 89) hx hb d_M_guard_118 (by decide) ?_
                      exact ih (j + 1) _ _ _ _ (by omega) (by omega) (bI_f (fun z => c_106 ((zx_0 _).mpr (isZ_s.mp z.2).2))).symm hP hS (lv_sub hl [0, 1, 2] rfl)
                    · refine lv_iconst (v := nI 1) hx hb d_M_guard_109 rfl ?_
                      refine lv_goto (tgt := 114) hx hb d_M_guard_110 (by decide) ?_
                      refine lv_istore_n (lv' := [(1, .int (nI (1))), (2, .int (nI (462 + j))), (0, .ref (k 0))]) hx hb d_M_guard_114 rfl hl (by decide) rfl (fun ls hl => ?_)
                      refine lv_iinc (v := (nI (462 + j + 1))) (lv' := [(2, .int (nI (462 + j + 1))), (1, .int (nI (1))), (0, .ref (k 0))]) hx hb d_M_guard_115 hl (k := 1) rfl (nI_add _ _) (by decide) rfl (fun ls hl => ?_)
                      refine lv_goto (tgt := 89) hx hb d_M_guard_118 (by decide) ?_
                      exact ih (j + 1) _ _ _ _ (by omega) (by omega) (bI_t ⟨(bI_y hv c_97).1, isZ_s.mpr ⟨(bI_y hv c_97).2, (zx_0 _).mp c_106⟩⟩).symm hP hS (lv_sub hl [0, 1, 2] rfl)
            exact lp (48 + 1) 0 _ _ _ _ (Nat.zero_le _) (by omega) (bI_t ⟨⟨c_10, c_24, c_38, c_54, c_76⟩, lt_0⟩).symm hP hS (lv_sub hl [0, 1, 2] rfl)
abbrev w_M_writeGuard : List Cond := .code y_M_writeGuard b_M_writeGuard 2 none :: ALL
abbrev rm_M_writeGuard : Room := { frames := 1, cells := 0, slots := 0, locals := 25 }
theorem hd_M_writeGuard : y_M_writeGuard.cls = R_M ∧ y_M_writeGuard.cls ≠ "java/lang/invoke/MethodHandle" ∧ y_M_writeGuard.cls ≠ "java/lang/invoke/VarHandle" ∧ (parseMethodDescriptor y_M_writeGuard.desc).map (fun d => d.parameters.length) = some 0 := by decide +kernel
set_option maxHeartbeats 4000000 in
set_option maxRecDepth 100000 in
theorem c_M_writeGuard (l : Launch) (D : va_G) (k : Nat → Nat) (cI : Nat → ClassId) (n : Nat) (A : Nat → Prop) (hn : 12 ≤ n) (hn2 : n ≤ 24) (d t mk : Nat → BitVec 8)  : Met l y_M_writeGuard w_M_writeGuard rm_M_writeGuard (va_Pc [.ref (k 0)] (mB D k cI n A (mU d t mk))) (va_Qv (fun v => v = mU (wGd n d) t mk) (mB D k cI n A) A) 0 0 A := by
  refine g_ofW (cc := b_M_writeGuard) (maxL := 2) (ret := none) (by decide) rfl (Nat.le_of_ble_eq_true rfl) ?_
  intro p e s m below meth c ls hx hb hml hr hlk hown hts hnm hB hl
  have hown : s.vm.findClass R_M = some m.cls := hown
  have hP := hB.1
  have hK := hB.2.1
  obtain ⟨H, hH⟩ : ∃ H, H = s.heap := ⟨_, rfl⟩
  have hS : va_S A s.heap H [] := by rw [hH]; exact va_S.rf
  rw [← hH] at hP ⊢
  have hl : lv_has ls 2 [(0, .ref (k 0))] := hl
  have z1 : mSz 1 = 12288 := rfl
  have z2 : mSz 2 = 1024 := rfl
  have z3 : mSz 3 = 16 := rfl
  refine lv_iconst (v := nI 0) hx hb d_M_writeGuard_0 rfl ?_
  refine lv_istore_n (lv' := [(1, .int (nI (0))), (0, .ref (k 0))]) hx hb d_M_writeGuard_1 rfl hl (by decide) rfl (fun ls hl => ?_)
  have hP : va_P D classes (mW k cI n (mU (clr d 0 0) (t) (mk))) H := by rw [clr_0]; exact hP
  have lp : ∀ (q : Nat) (i : Nat) (H : Heap) (locs : List Loc) (ls : Array Slot), (i ≤ 512) → (512 + 1 ≤ i + q) → va_P D classes (mW k cI n (mU (clr d 0 i) (t) (mk))) H → va_S A s.heap H locs → lv_has ls 2 [(1, .int (nI (i))), (0, .ref (k 0))] → W p l e rm_M_writeGuard s m ([.ref (k 0)] : List Value).toArray below meth c H locs 0 0 (MQ below (va_Qv (fun v => v = mU (wGd n d) t mk) (mB D k cI n A) A) ([.ref (k 0)] : List Value).toArray s 0 0 A) (F0 m 2 ls []) := by
    intro q
    induction q with
    | zero =>
      intro i H locs ls hi hq hP hS hl
      exact absurd hq (by omega)
    | succ q ih =>
      intro i H locs ls hi hq hP hS hl
      refine lv_iload_n hx hb d_M_writeGuard_2 rfl (lv_at hl 0 rfl) ?_
      refine lv_sipush (v := nI 512) hx hb d_M_writeGuard_3 rfl ?_
      refine lv_icmp_ge (tgt := 22) hx hb d_M_writeGuard_6 (by decide) (fun c_6 => ?_) (fun c_6 => ?_)
      · have hik : i = 512 := ge_t hi (by omega) c_6
        rw [hik] at hP
        refine lv_aload_n hx hb d_M_writeGuard_22 rfl (lv_at hl 1 rfl) ?_
        refine va_get (D := D) (ci := 3) (v := .ref (k 1)) (C := R_M) (T := F_M) (N := 4) hx hb hts (fun w h => .tail _ (fi_M w h)) hown hK hP 0 rfl rfl 1 (by decide) (hts _ (.tail _ m_405)) (fun _ h9 => h9) rfl d_M_writeGuard_23 ?_
        refine lv_sipush (v := nI 510) hx hb d_M_writeGuard_26 rfl ?_
        refine lv_bipush (v := nI 85) hx hb d_M_writeGuard_29 rfl ?_
        refine m_iast hx hb hB hP hS (i := 1) (by decide) (by decide) (a := 510) (y := 85) (rfl) (by omega) d_M_writeGuard_31 (fun H locs hP hS => ?_)
        have hP : va_P D classes (mW k cI n (mU (va_up (clr d 0 512) 510 85) (t) (mk))) H := by rw [mU_1] at hP; exact hP
        refine lv_aload_n hx hb d_M_writeGuard_32 rfl (lv_at hl 1 rfl) ?_
        refine va_get (D := D) (ci := 3) (v := .ref (k 1)) (C := R_M) (T := F_M) (N := 4) hx hb hts (fun w h => .tail _ (fi_M w h)) hown hK hP 0 rfl rfl 1 (by decide) (hts _ (.tail _ m_405)) (fun _ h9 => h9) rfl d_M_writeGuard_33 ?_
        refine lv_sipush (v := nI 511) hx hb d_M_writeGuard_36 rfl ?_
        refine lv_sipush (v := nI 170) hx hb d_M_writeGuard_39 rfl ?_
        refine m_iast hx hb hB hP hS (i := 1) (by decide) (by decide) (a := 511) (y := 170) (rfl) (by omega) d_M_writeGuard_42 (fun H locs hP hS => ?_)
        have hP : va_P D classes (mW k cI n (mU (va_up (va_up (clr d 0 512) 510 85) 511 170) (t) (mk))) H := by rw [mU_1] at hP; exact hP
        refine lv_aload_n hx hb d_M_writeGuard_43 rfl (lv_at hl 1 rfl) ?_
        refine va_get (D := D) (ci := 3) (v := .ref (k 1)) (C := R_M) (T := F_M) (N := 4) hx hb hts (fun w h => .tail _ (fi_M w h)) hown hK hP 0 rfl rfl 1 (by decide) (hts _ (.tail _ m_405)) (fun _ h9 => h9) rfl d_M_writeGuard_44 ?_
        refine lv_sipush (v := nI 450) hx hb d_M_writeGuard_47 rfl ?_
        refine lv_sipush (v := nI 238) hx hb d_M_writeGuard_50 rfl ?_
        refine m_iast hx hb hB hP hS (i := 1) (by decide) (by decide) (a := 450) (y := 238) (rfl) (by omega) d_M_writeGuard_53 (fun H locs hP hS => ?_)
        have hP : va_P D classes (mW k cI n (mU (va_up (va_up (va_up (clr d 0 512) 510 85) 511 170) 450 238) (t) (mk))) H := by rw [mU_1] at hP; exact hP
        refine lv_aload_n hx hb d_M_writeGuard_54 rfl (lv_at hl 1 rfl) ?_
        refine va_get (D := D) (ci := 3) (v := .ref (k 1)) (C := R_M) (T := F_M) (N := 4) hx hb hts (fun w h => .tail _ (fi_M w h)) hown hK hP 0 rfl rfl 1 (by decide) (hts _ (.tail _ m_405)) (fun _ h9 => h9) rfl d_M_writeGuard_55 ?_
        refine lv_sipush (v := nI 454) hx hb d_M_writeGuard_58 rfl ?_
        refine lv_iconst (v := nI 4) hx hb d_M_writeGuard_61 rfl ?_
        refine lv_lconst (v := 1) hx hb d_M_writeGuard_62 rfl ?_
        refine g_callSv (As := [.ref (k 1), .int (nI (454)), .int (nI (4)), .long (1)]) (rest := []) ⟨hx, hb, hml, hown, hts⟩ (index := 29) (c_M_put l D k cI n A hn hn2 (mU (va_up (va_up (va_up (clr d 0 512) 510 85) 511 170) 450 238) (t) (mk)) (1) (by omega) (by omega) (454) (4) (1) (by omega) (by omega)) (cwS 4 hts (gd_S m_513 m_514 m_33 m_515) rfl rfl rfl hd_M_put ⟨Nat.le_of_ble_eq_true rfl, Nat.le_of_ble_eq_true rfl⟩) mW_w mX_x hB hP hS rfl hl.1 rfl (Nat.le_of_ble_eq_true rfl) d_M_writeGuard_63 ⟨Nat.zero_le _, Nat.zero_le _⟩ (fun v_ H locs hw hP hS => ?_)
        have hw := hw.symm; subst hw
        have hP : va_P D classes (mW k cI n (mU (setN ((va_up (va_up (va_up (clr d 0 512) 510 85) 511 170) 450 238)) 454 4 1) (t) (mk))) H := by rw [mU_1] at hP; exact hP
        refine lv_aload_n hx hb d_M_writeGuard_66 rfl (lv_at hl 1 rfl) ?_
        refine va_get (D := D) (ci := 3) (v := .ref (k 1)) (C := R_M) (T := F_M) (N := 4) hx hb hts (fun w h => .tail _ (fi_M w h)) hown hK hP 0 rfl rfl 1 (by decide) (hts _ (.tail _ m_405)) (fun _ h9 => h9) rfl d_M_writeGuard_67 ?_
        refine lv_sipush (v := nI 458) hx hb d_M_writeGuard_70 rfl ?_
        refine lv_iconst (v := nI 4) hx hb d_M_writeGuard_73 rfl ?_
        refine lv_aload_n hx hb d_M_writeGuard_74 rfl (lv_at hl 1 rfl) ?_
        refine va_get (D := D) (ci := 3) (v := .int (nI (n))) (C := R_M) (T := F_M) (N := 4) hx hb hts (fun w h => .tail _ (fi_M w h)) hown hK hP 0 rfl rfl 0 (by decide) (hts _ (.tail _ m_404)) (fun _ h9 => h9) rfl d_M_writeGuard_75 ?_
        refine lv_iconst (v := nI 1) hx hb d_M_writeGuard_78 rfl ?_
        refine lv_isubN hx hb d_M_writeGuard_79 (by omega) ?_
        refine lv_i2l hx hb d_M_writeGuard_80 rfl ?_
        refine g_callSv (As := [.ref (k 1), .int (nI (458)), .int (nI (4)), .long ((nI (n - 1)).toInt64)]) (rest := []) ⟨hx, hb, hml, hown, hts⟩ (index := 29) (c_M_put l D k cI n A hn hn2 (mU (setN ((va_up (va_up (va_up (clr d 0 512) 510 85) 511 170) 450 238)) 454 4 1) (t) (mk)) (1) (by omega) (by omega) (458) (4) ((nI (n - 1)).toInt64) (by omega) (by omega)) (cwS 4 hts (gd_S m_513 m_514 m_33 m_515) rfl rfl rfl hd_M_put ⟨Nat.le_of_ble_eq_true rfl, Nat.le_of_ble_eq_true rfl⟩) mW_w mX_x hB hP hS rfl hl.1 rfl (Nat.le_of_ble_eq_true rfl) d_M_writeGuard_81 ⟨Nat.zero_le _, Nat.zero_le _⟩ (fun v_ H locs hw hP hS => ?_)
        have hw := hw.symm; subst hw
        have hP : va_P D classes (mW k cI n (mU (setN ((setN ((va_up (va_up (va_up (clr d 0 512) 510 85) 511 170) 450 238)) 454 4 1)) 458 4 ((nI (n - 1)).toInt64)) (t) (mk))) H := by rw [mU_1] at hP; exact hP
        exact g_vret hx hb hr hlk mW_w mX_x hB hP hS (congrArg (fun z => mU z t mk) (wG_eq n d)) d_M_writeGuard_84
      · have hik : i < 512 := ge_f (by omega) (by omega) c_6
        refine lv_aload_n hx hb d_M_writeGuard_9 rfl (lv_at hl 1 rfl) ?_
        refine va_get (D := D) (ci := 3) (v := .ref (k 1)) (C := R_M) (T := F_M) (N := 4) hx hb hts (fun w h => .tail _ (fi_M w h)) hown hK hP 0 rfl rfl 1 (by decide) (hts _ (.tail _ m_405)) (fun _ h9 => h9) rfl d_M_writeGuard_10 ?_
        refine lv_iload_n hx hb d_M_writeGuard_13 rfl (lv_at hl 0 rfl) ?_
        refine lv_iconst (v := nI 0) hx hb d_M_writeGuard_14 rfl ?_
        refine m_iast hx hb hB hP hS (i := 1) (by decide) (by decide) (a := i) (y := 0) (rfl) (by omega) d_M_writeGuard_15 (fun H locs hP hS => ?_)
        have hP : va_P D classes (mW k cI n (mU (va_up (clr d 0 i) i 0) (t) (mk))) H := by rw [mU_1] at hP; exact hP
        rw [show va_up (clr d 0 i) i 0 = clr d 0 (i + 1) from by have z := clr_s d 0 i; rw [Nat.zero_add] at z; exact z] at hP
        refine lv_iinc (v := (nI (i + 1))) (lv' := [(1, .int (nI (i + 1))), (0, .ref (k 0))]) hx hb d_M_writeGuard_16 hl (k := 0) rfl (nI_add _ _) (by decide) rfl (fun ls hl => ?_)
        refine lv_goto (tgt := 2) hx hb d_M_writeGuard_19 (by decide) ?_
        exact ih (i + 1) _ _ _ (by omega) (by omega) hP hS (lv_sub hl [0, 1] rfl)
  exact lp (512 + 1) 0 _ _ _ (Nat.zero_le _) (by omega) hP hS (lv_sub hl [0, 1] rfl)
abbrev w_M_seal : List Cond := .code y_M_seal b_M_seal 3 (some .boolean) :: ALL
abbrev rm_M_seal : Room := { frames := 2, cells := 0, slots := 0, locals := 49 }
theorem hd_M_seal : y_M_seal.cls = R_M ∧ y_M_seal.cls ≠ "java/lang/invoke/MethodHandle" ∧ y_M_seal.cls ≠ "java/lang/invoke/VarHandle" ∧ (parseMethodDescriptor y_M_seal.desc).map (fun d => d.parameters.length) = some 1 := by decide +kernel
set_option maxHeartbeats 4000000 in
set_option maxRecDepth 100000 in
theorem c_M_sealJ (l : Launch) (D : va_G) (k : Nat → Nat) (cI : Nat → ClassId) (n : Nat) (A : Nat → Prop) (hn : 12 ≤ n) (hn2 : n ≤ 24) (d t mk : Nat → BitVec 8) (j : Nat) (hj : j < 2) : Met l y_M_seal w_M_seal rm_M_seal (va_Pc [.ref (k 0), .int (nI (j))] (mB D k cI n A (mU d t mk))) (va_Qi (fun r v => r = nI 1 ∧ v = mU (wSm n j d) t mk) (mB D k cI n A) A) 0 0 A := by
  refine g_ofW (cc := b_M_seal) (maxL := 3) (ret := (some .boolean)) (by decide) rfl (Nat.le_of_ble_eq_true rfl) ?_
  intro p e s m below meth c ls hx hb hml hr hlk hown hts hnm hB hl
  have hown : s.vm.findClass R_M = some m.cls := hown
  have hP := hB.1
  have hK := hB.2.1
  obtain ⟨H, hH⟩ : ∃ H, H = s.heap := ⟨_, rfl⟩
  have hS : va_S A s.heap H [] := by rw [hH]; exact va_S.rf
  rw [← hH] at hP ⊢
  have hl : lv_has ls 3 [(0, .ref (k 0)), (1, .int (nI (j)))] := hl
  have z1 : mSz 1 = 12288 := rfl
  have z2 : mSz 2 = 1024 := rfl
  have z3 : mSz 3 = 16 := rfl
  have hHd := cHd_le hn hj
  have hAr := cAr_le hn hj
  refine lv_iload_n hx hb d_M_seal_0 rfl (lv_at hl 1 rfl) ?_
  refine lv_if_lt (tgt := 9) hx hb d_M_seal_1 (by decide) (fun c9 => absurd c9 (nI_pos (by omega))) (fun _ => ?_)
  refine lv_iload_n hx hb d_M_seal_4 rfl (lv_at hl 1 rfl) ?_
  refine lv_iconst (v := nI 1) hx hb d_M_seal_5 rfl ?_
  refine lv_icmp_le (tgt := 11) hx hb d_M_seal_6 (by decide) (fun _ => ?_) (fun c9 => absurd (nI_le (by omega) (by decide)) c9)
  refine lv_aload_n hx hb d_M_seal_11 rfl (lv_at hl 0 rfl) ?_
  refine lv_iload_n hx hb d_M_seal_12 rfl (lv_at hl 1 rfl) ?_
  refine g_callVi (As := [.int (nI (j))]) (rest := []) ⟨hx, hb, hml, hown, hts⟩ (C := R_M) (index := 82) (c_M_headerAt l D k cI n A hn hn2 (d) (t) (mk) (j) hj) (cwV 1 hts (gd_V m_457 m_459 m_16 m_33 m_460) rfl rfl rfl hd_M_headerAt ⟨Nat.le_of_ble_eq_true rfl, Nat.le_of_ble_eq_true rfl⟩) mW_w mX_x hB hP hS (ci := 3) rfl (0) rfl rfl hl.1 rfl (Nat.le_of_ble_eq_true rfl) d_M_seal_13 ⟨Nat.zero_le _, Nat.zero_le _⟩ (fun r_ v_ H locs hw hP hS => ?_)
  obtain ⟨hw1, hw2⟩ := hw; have hw1 := hw1.symm; have hw2 := hw2.symm; subst hw1; subst hw2
  refine lv_istore_n (lv' := [(2, .int (nI (cHd n j))), (0, .ref (k 0)), (1, .int (nI (j)))]) hx hb d_M_seal_16 rfl hl (by decide) rfl (fun ls hl => ?_)
  refine lv_aload_n hx hb d_M_seal_17 rfl (lv_at hl 1 rfl) ?_
  refine va_get (D := D) (ci := 3) (v := .ref (k 1)) (C := R_M) (T := F_M) (N := 4) hx hb hts (fun w h => .tail _ (fi_M w h)) hown hK hP 0 rfl rfl 1 (by decide) (hts _ (.tail _ m_405)) (fun _ h9 => h9) rfl d_M_seal_18 ?_
  refine lv_iload_n hx hb d_M_seal_21 rfl (lv_at hl 0 rfl) ?_
  refine lv_bipush (v := nI 88) hx hb d_M_seal_22 rfl ?_
  refine lv_iaddN hx hb d_M_seal_24 ?_
  refine lv_iconst (v := nI 4) hx hb d_M_seal_25 rfl ?_
  refine lv_aload_n hx hb d_M_seal_26 rfl (lv_at hl 1 rfl) ?_
  refine lv_aload_n hx hb d_M_seal_27 rfl (lv_at hl 1 rfl) ?_
  refine lv_iload_n hx hb d_M_seal_28 rfl (lv_at hl 2 rfl) ?_
  refine g_callVi (As := [.int (nI (j))]) (rest := [.ref (k 0), .int (nI (4)), .int (nI ((cHd n j) + 88)), .ref (k 1)]) ⟨hx, hb, hml, hown, hts⟩ (C := R_M) (index := 96) (c_M_arrayAt l D k cI n A hn hn2 (d) (t) (mk) (j) hj) (cwV 1 hts (gd_V m_477 m_479 m_19 m_33 m_480) rfl rfl rfl hd_M_arrayAt ⟨Nat.le_of_ble_eq_true rfl, Nat.le_of_ble_eq_true rfl⟩) mW_w mX_x hB hP hS (ci := 3) rfl (0) rfl rfl hl.1 rfl (Nat.le_of_ble_eq_true rfl) d_M_seal_29 ⟨Nat.zero_le _, Nat.zero_le _⟩ (fun r_ v_ H locs hw hP hS => ?_)
  obtain ⟨hw1, hw2⟩ := hw; have hw1 := hw1.symm; have hw2 := hw2.symm; subst hw1; subst hw2
  refine lv_sipush (v := nI 1024) hx hb d_M_seal_32 rfl ?_
  refine lv_iconst (v := -1) hx hb d_M_seal_35 rfl ?_
  refine g_callVi (As := [.int (nI (cAr n j)), .int (nI (1024)), .int (-1)]) (rest := [.int (nI (4)), .int (nI ((cHd n j) + 88)), .ref (k 1)]) ⟨hx, hb, hml, hown, hts⟩ (C := R_M) (index := 42) (c_M_sumOf0 l D k cI n A hn hn2 (d) (t) (mk) (cAr n j) (1024) (by omega)) (cwV 3 hts (gd_V m_438 m_440 m_15 m_33 m_441) rfl rfl rfl hd_M_sumOf ⟨Nat.le_of_ble_eq_true rfl, Nat.le_of_ble_eq_true rfl⟩) mW_w mX_x hB hP hS (ci := 3) rfl (0) rfl rfl hl.1 rfl (Nat.le_of_ble_eq_true rfl) d_M_seal_36 ⟨Nat.zero_le _, Nat.zero_le _⟩ (fun r_ v_ H locs hw hP hS => ?_)
  obtain ⟨hw1, hw2⟩ := hw; have hw1 := hw1.symm; have hw2 := hw2.symm; subst hw1; subst hw2
  refine lv_i2l hx hb d_M_seal_39 rfl ?_
  refine g_callSv (As := [.ref (k 1), .int (nI ((cHd n j) + 88)), .int (nI (4)), .long ((smO d (cAr n j) 1024).toInt64)]) (rest := []) ⟨hx, hb, hml, hown, hts⟩ (index := 29) (c_M_put l D k cI n A hn hn2 (mU (d) (t) (mk)) (1) (by omega) (by omega) ((cHd n j) + 88) (4) ((smO d (cAr n j) 1024).toInt64) (by omega) (by omega)) (cwS 4 hts (gd_S m_513 m_514 m_33 m_515) rfl rfl rfl hd_M_put ⟨Nat.le_of_ble_eq_true rfl, Nat.le_of_ble_eq_true rfl⟩) mW_w mX_x hB hP hS rfl hl.1 rfl (Nat.le_of_ble_eq_true rfl) d_M_seal_40 ⟨Nat.zero_le _, Nat.zero_le _⟩ (fun v_ H locs hw hP hS => ?_)
  have hw := hw.symm; subst hw
  have hP : va_P D classes (mW k cI n (mU (setN (d) ((cHd n j) + 88) 4 ((smO d (cAr n j) 1024).toInt64)) (t) (mk))) H := by rw [mU_1] at hP; exact hP
  refine lv_aload_n hx hb d_M_seal_43 rfl (lv_at hl 1 rfl) ?_
  refine va_get (D := D) (ci := 3) (v := .ref (k 1)) (C := R_M) (T := F_M) (N := 4) hx hb hts (fun w h => .tail _ (fi_M w h)) hown hK hP 0 rfl rfl 1 (by decide) (hts _ (.tail _ m_405)) (fun _ h9 => h9) rfl d_M_seal_44 ?_
  refine lv_iload_n hx hb d_M_seal_47 rfl (lv_at hl 0 rfl) ?_
  refine lv_bipush (v := nI 16) hx hb d_M_seal_48 rfl ?_
  refine lv_iaddN hx hb d_M_seal_50 ?_
  refine lv_iconst (v := nI 4) hx hb d_M_seal_51 rfl ?_
  refine lv_aload_n hx hb d_M_seal_52 rfl (lv_at hl 1 rfl) ?_
  refine lv_iload_n hx hb d_M_seal_53 rfl (lv_at hl 0 rfl) ?_
  refine lv_bipush (v := nI 92) hx hb d_M_seal_54 rfl ?_
  refine lv_iload_n hx hb d_M_seal_56 rfl (lv_at hl 0 rfl) ?_
  refine lv_bipush (v := nI 16) hx hb d_M_seal_57 rfl ?_
  refine lv_iaddN hx hb d_M_seal_59 ?_
  refine g_callVi (As := [.int (nI (cHd n j)), .int (nI (92)), .int (nI ((cHd n j) + 16))]) (rest := [.int (nI (4)), .int (nI ((cHd n j) + 16)), .ref (k 1)]) ⟨hx, hb, hml, hown, hts⟩ (C := R_M) (index := 42) (c_M_sumOfB l D k cI n A hn hn2 (setN (d) ((cHd n j) + 88) 4 ((smO d (cAr n j) 1024).toInt64)) (t) (mk) ((cHd n j) + 16) (cHd n j) (92) (by omega) (by omega) (by omega)) (cwV 3 hts (gd_V m_438 m_440 m_15 m_33 m_441) rfl rfl rfl hd_M_sumOf ⟨Nat.le_of_ble_eq_true rfl, Nat.le_of_ble_eq_true rfl⟩) mW_w mX_x hB hP hS (ci := 3) rfl (0) rfl rfl hl.1 rfl (Nat.le_of_ble_eq_true rfl) d_M_seal_60 ⟨Nat.zero_le _, Nat.zero_le _⟩ (fun r_ v_ H locs hw hP hS => ?_)
  obtain ⟨hw1, hw2⟩ := hw; have hw1 := hw1.symm; have hw2 := hw2.symm; subst hw1; subst hw2
  refine lv_i2l hx hb d_M_seal_63 rfl ?_
  refine g_callSv (As := [.ref (k 1), .int (nI ((cHd n j) + 16)), .int (nI (4)), .long ((smW (setN (d) ((cHd n j) + 88) 4 ((smO d (cAr n j) 1024).toInt64)) ((cHd n j) + 16) (cHd n j) 92).toInt64)]) (rest := []) ⟨hx, hb, hml, hown, hts⟩ (index := 29) (c_M_put l D k cI n A hn hn2 (mU (setN (d) ((cHd n j) + 88) 4 ((smO d (cAr n j) 1024).toInt64)) (t) (mk)) (1) (by omega) (by omega) ((cHd n j) + 16) (4) ((smW (setN (d) ((cHd n j) + 88) 4 ((smO d (cAr n j) 1024).toInt64)) ((cHd n j) + 16) (cHd n j) 92).toInt64) (by omega) (by omega)) (cwS 4 hts (gd_S m_513 m_514 m_33 m_515) rfl rfl rfl hd_M_put ⟨Nat.le_of_ble_eq_true rfl, Nat.le_of_ble_eq_true rfl⟩) mW_w mX_x hB hP hS rfl hl.1 rfl (Nat.le_of_ble_eq_true rfl) d_M_seal_64 ⟨Nat.zero_le _, Nat.zero_le _⟩ (fun v_ H locs hw hP hS => ?_)
  have hw := hw.symm; subst hw
  have hP : va_P D classes (mW k cI n (mU (setN ((setN (d) ((cHd n j) + 88) 4 ((smO d (cAr n j) 1024).toInt64))) ((cHd n j) + 16) 4 ((smW (setN (d) ((cHd n j) + 88) 4 ((smO d (cAr n j) 1024).toInt64)) ((cHd n j) + 16) (cHd n j) 92).toInt64)) (t) (mk))) H := by rw [mU_1] at hP; exact hP
  refine lv_iconst (v := nI 1) hx hb d_M_seal_67 rfl ?_
  exact g_zret (v := (nI (1))) hx hb hr (rfl) hlk mW_w mX_x hB hP hS (⟨rfl, rfl⟩) d_M_seal_68
abbrev w_M_writeCopy : List Cond := .code y_M_writeCopy b_M_writeCopy 4 none :: ALL
abbrev rm_M_writeCopy : Room := { frames := 3, cells := 0, slots := 0, locals := 71 }
theorem hd_M_writeCopy : y_M_writeCopy.cls = R_M ∧ y_M_writeCopy.cls ≠ "java/lang/invoke/MethodHandle" ∧ y_M_writeCopy.cls ≠ "java/lang/invoke/VarHandle" ∧ (parseMethodDescriptor y_M_writeCopy.desc).map (fun d => d.parameters.length) = some 1 := by decide +kernel
set_option maxHeartbeats 4000000 in
set_option maxRecDepth 100000 in
theorem c_M_writeCopy (l : Launch) (D : va_G) (k : Nat → Nat) (cI : Nat → ClassId) (n : Nat) (A : Nat → Prop) (hn : 12 ≤ n) (hn2 : n ≤ 24) (d t mk : Nat → BitVec 8) (j : Nat) (hj : j < 2) : Met l y_M_writeCopy w_M_writeCopy rm_M_writeCopy (va_Pc [.ref (k 0), .int (nI (j))] (mB D k cI n A (mU d t mk))) (va_Qv (fun v => v = mU (mWc n j t mk d) t mk) (mB D k cI n A) A) 0 0 A := by
  refine g_ofW (cc := b_M_writeCopy) (maxL := 4) (ret := none) (by decide) rfl (Nat.le_of_ble_eq_true rfl) ?_
  intro p e s m below meth c ls hx hb hml hr hlk hown hts hnm hB hl
  have hown : s.vm.findClass R_M = some m.cls := hown
  have hP := hB.1
  have hK := hB.2.1
  obtain ⟨H, hH⟩ : ∃ H, H = s.heap := ⟨_, rfl⟩
  have hS : va_S A s.heap H [] := by rw [hH]; exact va_S.rf
  rw [← hH] at hP ⊢
  have hl : lv_has ls 4 [(0, .ref (k 0)), (1, .int (nI (j)))] := hl
  have z1 : mSz 1 = 12288 := rfl
  have z2 : mSz 2 = 1024 := rfl
  have z3 : mSz 3 = 16 := rfl
  have hHd := cHd_le hn hj
  have hAr := cAr_le hn hj
  refine lv_aload_n hx hb d_M_writeCopy_0 rfl (lv_at hl 0 rfl) ?_
  refine lv_iload_n hx hb d_M_writeCopy_1 rfl (lv_at hl 1 rfl) ?_
  refine g_callVi (As := [.int (nI (j))]) (rest := []) ⟨hx, hb, hml, hown, hts⟩ (C := R_M) (index := 82) (c_M_headerAt l D k cI n A hn hn2 (d) (t) (mk) (j) hj) (cwV 1 hts (gd_V m_457 m_459 m_16 m_33 m_460) rfl rfl rfl hd_M_headerAt ⟨Nat.le_of_ble_eq_true rfl, Nat.le_of_ble_eq_true rfl⟩) mW_w mX_x hB hP hS (ci := 3) rfl (0) rfl rfl hl.1 rfl (Nat.le_of_ble_eq_true rfl) d_M_writeCopy_2 ⟨Nat.zero_le _, Nat.zero_le _⟩ (fun r_ v_ H locs hw hP hS => ?_)
  obtain ⟨hw1, hw2⟩ := hw; have hw1 := hw1.symm; have hw2 := hw2.symm; subst hw1; subst hw2
  refine lv_istore_n (lv' := [(2, .int (nI (cHd n j))), (0, .ref (k 0)), (1, .int (nI (j)))]) hx hb d_M_writeCopy_5 rfl hl (by decide) rfl (fun ls hl => ?_)
  refine lv_iconst (v := nI 0) hx hb d_M_writeCopy_6 rfl ?_
  refine lv_istore_n (lv' := [(3, .int (nI (0))), (2, .int (nI (cHd n j))), (0, .ref (k 0)), (1, .int (nI (j)))]) hx hb d_M_writeCopy_7 rfl hl (by decide) rfl (fun ls hl => ?_)
  have hP : va_P D classes (mW k cI n (mU (cpA t d (cAr n j) 0) (t) (mk))) H := by rw [cpA_0]; exact hP
  have lp : ∀ (q : Nat) (i : Nat) (H : Heap) (locs : List Loc) (ls : Array Slot), (i ≤ 1024) → (1024 + 1 ≤ i + q) → va_P D classes (mW k cI n (mU (cpA t d (cAr n j) i) (t) (mk))) H → va_S A s.heap H locs → lv_has ls 4 [(3, .int (nI (i))), (2, .int (nI (cHd n j))), (0, .ref (k 0)), (1, .int (nI (j)))] → W p l e rm_M_writeCopy s m ([.ref (k 0), .int (nI (j))] : List Value).toArray below meth c H locs 0 0 (MQ below (va_Qv (fun v => v = mU (mWc n j t mk d) t mk) (mB D k cI n A) A) ([.ref (k 0), .int (nI (j))] : List Value).toArray s 0 0 A) (F0 m 8 ls []) := by
    intro q
    induction q with
    | zero =>
      intro i H locs ls hi hq hP hS hl
      exact absurd hq (by omega)
    | succ q ih =>
      intro i H locs ls hi hq hP hS hl
      refine lv_iload_n hx hb d_M_writeCopy_8 rfl (lv_at hl 0 rfl) ?_
      refine lv_sipush (v := nI 1024) hx hb d_M_writeCopy_9 rfl ?_
      refine lv_icmp_ge (tgt := 39) hx hb d_M_writeCopy_12 (by decide) (fun c_12 => ?_) (fun c_12 => ?_)
      · have hik : i = 1024 := ge_t hi (by omega) c_12
        rw [hik] at hP
        refine lv_iconst (v := nI 0) hx hb d_M_writeCopy_39 rfl ?_
        refine lv_istore_n (lv' := [(3, .int (nI (0))), (2, .int (nI (cHd n j))), (0, .ref (k 0)), (1, .int (nI (j)))]) hx hb d_M_writeCopy_40 rfl hl (by decide) rfl (fun ls hl => ?_)
        have hP : va_P D classes (mW k cI n (mU (clr (cpA t d (cAr n j) 1024) (cHd n j) 0) (t) (mk))) H := by rw [clr_0]; exact hP
        have lp2 : ∀ (q2 : Nat) (i : Nat) (H : Heap) (locs : List Loc) (ls : Array Slot), (i ≤ 512) → (512 + 1 ≤ i + q2) → va_P D classes (mW k cI n (mU (clr (cpA t d (cAr n j) 1024) (cHd n j) i) (t) (mk))) H → va_S A s.heap H locs → lv_has ls 4 [(3, .int (nI (i))), (2, .int (nI (cHd n j))), (0, .ref (k 0)), (1, .int (nI (j)))] → W p l e rm_M_writeCopy s m ([.ref (k 0), .int (nI (j))] : List Value).toArray below meth c H locs 0 0 (MQ below (va_Qv (fun v => v = mU (mWc n j t mk d) t mk) (mB D k cI n A) A) ([.ref (k 0), .int (nI (j))] : List Value).toArray s 0 0 A) (F0 m 41 ls []) := by
          intro q2
          induction q2 with
          | zero =>
            intro i H locs ls hi hq hP hS hl
            exact absurd hq (by omega)
          | succ q2 ih2 =>
            intro i H locs ls hi hq hP hS hl
            refine lv_iload_n hx hb d_M_writeCopy_41 rfl (lv_at hl 0 rfl) ?_
            refine lv_sipush (v := nI 512) hx hb d_M_writeCopy_42 rfl ?_
            refine lv_icmp_ge (tgt := 63) hx hb d_M_writeCopy_45 (by decide) (fun c_45 => ?_) (fun c_45 => ?_)
            · have hik : i = 512 := ge_t hi (by omega) c_45
              rw [hik] at hP
              refine lv_iconst (v := nI 0) hx hb d_M_writeCopy_63 rfl ?_
              refine lv_istore_n (lv' := [(3, .int (nI (0))), (2, .int (nI (cHd n j))), (0, .ref (k 0)), (1, .int (nI (j)))]) hx hb d_M_writeCopy_64 rfl hl (by decide) rfl (fun ls hl => ?_)
              have hP : va_P D classes (mW k cI n (mU (setN (clr (cpA t d (cAr n j) 1024) (cHd n j) 512) (cHd n j) 0 6075990659671082565) (t) (mk))) H := by rw [setN_0]; exact hP
              have lp3 : ∀ (q3 : Nat) (i : Nat) (H : Heap) (locs : List Loc) (ls : Array Slot), (i ≤ 8) → (8 + 1 ≤ i + q3) → va_P D classes (mW k cI n (mU (setN (clr (cpA t d (cAr n j) 1024) (cHd n j) 512) (cHd n j) i 6075990659671082565) (t) (mk))) H → va_S A s.heap H locs → lv_has ls 4 [(3, .int (nI (i))), (2, .int (nI (cHd n j))), (0, .ref (k 0)), (1, .int (nI (j)))] → W p l e rm_M_writeCopy s m ([.ref (k 0), .int (nI (j))] : List Value).toArray below meth c H locs 0 0 (MQ below (va_Qv (fun v => v = mU (mWc n j t mk d) t mk) (mB D k cI n A) A) ([.ref (k 0), .int (nI (j))] : List Value).toArray s 0 0 A) (F0 m 65 ls []) := by
                intro q3
                induction q3 with
                | zero =>
                  intro i H locs ls hi hq hP hS hl
                  exact absurd hq (by omega)
                | succ q3 ih3 =>
                  intro i H locs ls hi hq hP hS hl
                  refine lv_iload_n hx hb d_M_writeCopy_65 rfl (lv_at hl 0 rfl) ?_
                  refine lv_bipush (v := nI 8) hx hb d_M_writeCopy_66 rfl ?_
                  refine lv_icmp_ge (tgt := 89) hx hb d_M_writeCopy_68 (by decide) (fun c_68 => ?_) (fun c_68 => ?_)
                  · have hik : i = 8 := ge_t hi (by omega) c_68
                    rw [hik] at hP
                    refine lv_aload_n hx hb d_M_writeCopy_89 rfl (lv_at hl 2 rfl) ?_
                    refine va_get (D := D) (ci := 3) (v := .ref (k 1)) (C := R_M) (T := F_M) (N := 4) hx hb hts (fun w h => .tail _ (fi_M w h)) hown hK hP 0 rfl rfl 1 (by decide) (hts _ (.tail _ m_405)) (fun _ h9 => h9) rfl d_M_writeCopy_90 ?_
                    refine lv_iload_n hx hb d_M_writeCopy_93 rfl (lv_at hl 1 rfl) ?_
                    refine lv_bipush (v := nI 8) hx hb d_M_writeCopy_94 rfl ?_
                    refine lv_iaddN hx hb d_M_writeCopy_96 ?_
                    refine lv_iconst (v := nI 4) hx hb d_M_writeCopy_97 rfl ?_
                    refine lv_ldc2 (v := 65536) hx hb hown (hts _ (.tail _ m_468)) d_M_writeCopy_98 ?_
                    refine g_callSv (As := [.ref (k 1), .int (nI ((cHd n j) + 8)), .int (nI (4)), .long (65536)]) (rest := []) ⟨hx, hb, hml, hown, hts⟩ (index := 29) (c_M_put l D k cI n A hn hn2 (mU (setN (clr (cpA t d (cAr n j) 1024) (cHd n j) 512) (cHd n j) 8 6075990659671082565) (t) (mk)) (1) (by omega) (by omega) ((cHd n j) + 8) (4) (65536) (by omega) (by omega)) (cwS 4 hts (gd_S m_513 m_514 m_33 m_515) rfl rfl rfl hd_M_put ⟨Nat.le_of_ble_eq_true rfl, Nat.le_of_ble_eq_true rfl⟩) mW_w mX_x hB hP hS rfl hl.1 rfl (Nat.le_of_ble_eq_true rfl) d_M_writeCopy_101 ⟨Nat.zero_le _, Nat.zero_le _⟩ (fun v_ H locs hw hP hS => ?_)
                    have hw := hw.symm; subst hw
                    have hP : va_P D classes (mW k cI n (mU (setN ((setN (clr (cpA t d (cAr n j) 1024) (cHd n j) 512) (cHd n j) 8 6075990659671082565)) ((cHd n j) + 8) 4 65536) (t) (mk))) H := by rw [mU_1] at hP; exact hP
                    refine lv_aload_n hx hb d_M_writeCopy_104 rfl (lv_at hl 2 rfl) ?_
                    refine va_get (D := D) (ci := 3) (v := .ref (k 1)) (C := R_M) (T := F_M) (N := 4) hx hb hts (fun w h => .tail _ (fi_M w h)) hown hK hP 0 rfl rfl 1 (by decide) (hts _ (.tail _ m_405)) (fun _ h9 => h9) rfl d_M_writeCopy_105 ?_
                    refine lv_iload_n hx hb d_M_writeCopy_108 rfl (lv_at hl 1 rfl) ?_
                    refine lv_bipush (v := nI 12) hx hb d_M_writeCopy_109 rfl ?_
                    refine lv_iaddN hx hb d_M_writeCopy_111 ?_
                    refine lv_iconst (v := nI 4) hx hb d_M_writeCopy_112 rfl ?_
                    refine lv_ldc2 (v := 92) hx hb hown (hts _ (.tail _ m_469)) d_M_writeCopy_113 ?_
                    refine g_callSv (As := [.ref (k 1), .int (nI ((cHd n j) + 12)), .int (nI (4)), .long (92)]) (rest := []) ⟨hx, hb, hml, hown, hts⟩ (index := 29) (c_M_put l D k cI n A hn hn2 (mU (setN ((setN (clr (cpA t d (cAr n j) 1024) (cHd n j) 512) (cHd n j) 8 6075990659671082565)) ((cHd n j) + 8) 4 65536) (t) (mk)) (1) (by omega) (by omega) ((cHd n j) + 12) (4) (92) (by omega) (by omega)) (cwS 4 hts (gd_S m_513 m_514 m_33 m_515) rfl rfl rfl hd_M_put ⟨Nat.le_of_ble_eq_true rfl, Nat.le_of_ble_eq_true rfl⟩) mW_w mX_x hB hP hS rfl hl.1 rfl (Nat.le_of_ble_eq_true rfl) d_M_writeCopy_116 ⟨Nat.zero_le _, Nat.zero_le _⟩ (fun v_ H locs hw hP hS => ?_)
                    have hw := hw.symm; subst hw
                    have hP : va_P D classes (mW k cI n (mU (setN ((setN ((setN (clr (cpA t d (cAr n j) 1024) (cHd n j) 512) (cHd n j) 8 6075990659671082565)) ((cHd n j) + 8) 4 65536)) ((cHd n j) + 12) 4 92) (t) (mk))) H := by rw [mU_1] at hP; exact hP
                    refine lv_aload_n hx hb d_M_writeCopy_119 rfl (lv_at hl 2 rfl) ?_
                    refine va_get (D := D) (ci := 3) (v := .ref (k 1)) (C := R_M) (T := F_M) (N := 4) hx hb hts (fun w h => .tail _ (fi_M w h)) hown hK hP 0 rfl rfl 1 (by decide) (hts _ (.tail _ m_405)) (fun _ h9 => h9) rfl d_M_writeCopy_120 ?_
                    refine lv_iload_n hx hb d_M_writeCopy_123 rfl (lv_at hl 1 rfl) ?_
                    refine lv_bipush (v := nI 24) hx hb d_M_writeCopy_124 rfl ?_
                    refine lv_iaddN hx hb d_M_writeCopy_126 ?_
                    refine lv_bipush (v := nI 8) hx hb d_M_writeCopy_127 rfl ?_
                    refine lv_aload_n hx hb d_M_writeCopy_129 rfl (lv_at hl 2 rfl) ?_
                    refine lv_iload_n hx hb d_M_writeCopy_130 rfl (lv_at hl 3 rfl) ?_
                    refine g_callVi (As := [.int (nI (j))]) (rest := [.int (nI (8)), .int (nI ((cHd n j) + 24)), .ref (k 1)]) ⟨hx, hb, hml, hown, hts⟩ (C := R_M) (index := 46) (c_M_header l D k cI n A hn hn2 (setN ((setN ((setN (clr (cpA t d (cAr n j) 1024) (cHd n j) 512) (cHd n j) 8 6075990659671082565)) ((cHd n j) + 8) 4 65536)) ((cHd n j) + 12) 4 92) (t) (mk) (j) hj) (cwV 1 hts (gd_V m_461 m_463 m_17 m_33 m_464) rfl rfl rfl hd_M_header ⟨Nat.le_of_ble_eq_true rfl, Nat.le_of_ble_eq_true rfl⟩) mW_w mX_x hB hP hS (ci := 3) rfl (0) rfl rfl hl.1 rfl (Nat.le_of_ble_eq_true rfl) d_M_writeCopy_131 ⟨Nat.zero_le _, Nat.zero_le _⟩ (fun r_ v_ H locs hw hP hS => ?_)
                    obtain ⟨hw1, hw2⟩ := hw; have hw1 := hw1.symm; have hw2 := hw2.symm; subst hw1; subst hw2
                    refine lv_i2l hx hb d_M_writeCopy_134 rfl ?_
                    refine g_callSv (As := [.ref (k 1), .int (nI ((cHd n j) + 24)), .int (nI (8)), .long ((nI (cOwn n j)).toInt64)]) (rest := []) ⟨hx, hb, hml, hown, hts⟩ (index := 29) (c_M_put l D k cI n A hn hn2 (mU (setN ((setN ((setN (clr (cpA t d (cAr n j) 1024) (cHd n j) 512) (cHd n j) 8 6075990659671082565)) ((cHd n j) + 8) 4 65536)) ((cHd n j) + 12) 4 92) (t) (mk)) (1) (by omega) (by omega) ((cHd n j) + 24) (8) ((nI (cOwn n j)).toInt64) (by omega) (by omega)) (cwS 4 hts (gd_S m_513 m_514 m_33 m_515) rfl rfl rfl hd_M_put ⟨Nat.le_of_ble_eq_true rfl, Nat.le_of_ble_eq_true rfl⟩) mW_w mX_x hB hP hS rfl hl.1 rfl (Nat.le_of_ble_eq_true rfl) d_M_writeCopy_135 ⟨Nat.zero_le _, Nat.zero_le _⟩ (fun v_ H locs hw hP hS => ?_)
                    have hw := hw.symm; subst hw
                    have hP : va_P D classes (mW k cI n (mU (setN ((setN ((setN ((setN (clr (cpA t d (cAr n j) 1024) (cHd n j) 512) (cHd n j) 8 6075990659671082565)) ((cHd n j) + 8) 4 65536)) ((cHd n j) + 12) 4 92)) ((cHd n j) + 24) 8 ((nI (cOwn n j)).toInt64)) (t) (mk))) H := by rw [mU_1] at hP; exact hP
                    refine lv_aload_n hx hb d_M_writeCopy_138 rfl (lv_at hl 2 rfl) ?_
                    refine va_get (D := D) (ci := 3) (v := .ref (k 1)) (C := R_M) (T := F_M) (N := 4) hx hb hts (fun w h => .tail _ (fi_M w h)) hown hK hP 0 rfl rfl 1 (by decide) (hts _ (.tail _ m_405)) (fun _ h9 => h9) rfl d_M_writeCopy_139 ?_
                    refine lv_iload_n hx hb d_M_writeCopy_142 rfl (lv_at hl 1 rfl) ?_
                    refine lv_bipush (v := nI 32) hx hb d_M_writeCopy_143 rfl ?_
                    refine lv_iaddN hx hb d_M_writeCopy_145 ?_
                    refine lv_bipush (v := nI 8) hx hb d_M_writeCopy_146 rfl ?_
                    refine lv_aload_n hx hb d_M_writeCopy_148 rfl (lv_at hl 2 rfl) ?_
                    refine lv_iconst (v := nI 1) hx hb d_M_writeCopy_149 rfl ?_
                    refine lv_iload_n hx hb d_M_writeCopy_150 rfl (lv_at hl 3 rfl) ?_
                    refine lv_isubN hx hb d_M_writeCopy_151 (by omega) ?_
                    refine g_callVi (As := [.int (nI (1 - j))]) (rest := [.int (nI (8)), .int (nI ((cHd n j) + 32)), .ref (k 1)]) ⟨hx, hb, hml, hown, hts⟩ (C := R_M) (index := 46) (c_M_header l D k cI n A hn hn2 (setN ((setN ((setN ((setN (clr (cpA t d (cAr n j) 1024) (cHd n j) 512) (cHd n j) 8 6075990659671082565)) ((cHd n j) + 8) 4 65536)) ((cHd n j) + 12) 4 92)) ((cHd n j) + 24) 8 ((nI (cOwn n j)).toInt64)) (t) (mk) (1 - j) (by omega)) (cwV 1 hts (gd_V m_461 m_463 m_17 m_33 m_464) rfl rfl rfl hd_M_header ⟨Nat.le_of_ble_eq_true rfl, Nat.le_of_ble_eq_true rfl⟩) mW_w mX_x hB hP hS (ci := 3) rfl (0) rfl rfl hl.1 rfl (Nat.le_of_ble_eq_true rfl) d_M_writeCopy_152 ⟨Nat.zero_le _, Nat.zero_le _⟩ (fun r_ v_ H locs hw hP hS => ?_)
                    obtain ⟨hw1, hw2⟩ := hw; have hw1 := hw1.symm; have hw2 := hw2.symm; subst hw1; subst hw2
                    refine lv_eqi (congrArg nI (cOwn_1 hj)) ?_
                    refine lv_i2l hx hb d_M_writeCopy_155 rfl ?_
                    refine g_callSv (As := [.ref (k 1), .int (nI ((cHd n j) + 32)), .int (nI (8)), .long ((nI (cOth n j)).toInt64)]) (rest := []) ⟨hx, hb, hml, hown, hts⟩ (index := 29) (c_M_put l D k cI n A hn hn2 (mU (setN ((setN ((setN ((setN (clr (cpA t d (cAr n j) 1024) (cHd n j) 512) (cHd n j) 8 6075990659671082565)) ((cHd n j) + 8) 4 65536)) ((cHd n j) + 12) 4 92)) ((cHd n j) + 24) 8 ((nI (cOwn n j)).toInt64)) (t) (mk)) (1) (by omega) (by omega) ((cHd n j) + 32) (8) ((nI (cOth n j)).toInt64) (by omega) (by omega)) (cwS 4 hts (gd_S m_513 m_514 m_33 m_515) rfl rfl rfl hd_M_put ⟨Nat.le_of_ble_eq_true rfl, Nat.le_of_ble_eq_true rfl⟩) mW_w mX_x hB hP hS rfl hl.1 rfl (Nat.le_of_ble_eq_true rfl) d_M_writeCopy_156 ⟨Nat.zero_le _, Nat.zero_le _⟩ (fun v_ H locs hw hP hS => ?_)
                    have hw := hw.symm; subst hw
                    have hP : va_P D classes (mW k cI n (mU (setN ((setN ((setN ((setN ((setN (clr (cpA t d (cAr n j) 1024) (cHd n j) 512) (cHd n j) 8 6075990659671082565)) ((cHd n j) + 8) 4 65536)) ((cHd n j) + 12) 4 92)) ((cHd n j) + 24) 8 ((nI (cOwn n j)).toInt64))) ((cHd n j) + 32) 8 ((nI (cOth n j)).toInt64)) (t) (mk))) H := by rw [mU_1] at hP; exact hP
                    refine lv_aload_n hx hb d_M_writeCopy_159 rfl (lv_at hl 2 rfl) ?_
                    refine va_get (D := D) (ci := 3) (v := .ref (k 1)) (C := R_M) (T := F_M) (N := 4) hx hb hts (fun w h => .tail _ (fi_M w h)) hown hK hP 0 rfl rfl 1 (by decide) (hts _ (.tail _ m_405)) (fun _ h9 => h9) rfl d_M_writeCopy_160 ?_
                    refine lv_iload_n hx hb d_M_writeCopy_163 rfl (lv_at hl 1 rfl) ?_
                    refine lv_bipush (v := nI 40) hx hb d_M_writeCopy_164 rfl ?_
                    refine lv_iaddN hx hb d_M_writeCopy_166 ?_
                    refine lv_bipush (v := nI 8) hx hb d_M_writeCopy_167 rfl ?_
                    refine lv_ldc2 (v := 4) hx hb hown (hts _ (.tail _ m_470)) d_M_writeCopy_169 ?_
                    refine g_callSv (As := [.ref (k 1), .int (nI ((cHd n j) + 40)), .int (nI (8)), .long (4)]) (rest := []) ⟨hx, hb, hml, hown, hts⟩ (index := 29) (c_M_put l D k cI n A hn hn2 (mU (setN ((setN ((setN ((setN ((setN (clr (cpA t d (cAr n j) 1024) (cHd n j) 512) (cHd n j) 8 6075990659671082565)) ((cHd n j) + 8) 4 65536)) ((cHd n j) + 12) 4 92)) ((cHd n j) + 24) 8 ((nI (cOwn n j)).toInt64))) ((cHd n j) + 32) 8 ((nI (cOth n j)).toInt64)) (t) (mk)) (1) (by omega) (by omega) ((cHd n j) + 40) (8) (4) (by omega) (by omega)) (cwS 4 hts (gd_S m_513 m_514 m_33 m_515) rfl rfl rfl hd_M_put ⟨Nat.le_of_ble_eq_true rfl, Nat.le_of_ble_eq_true rfl⟩) mW_w mX_x hB hP hS rfl hl.1 rfl (Nat.le_of_ble_eq_true rfl) d_M_writeCopy_172 ⟨Nat.zero_le _, Nat.zero_le _⟩ (fun v_ H locs hw hP hS => ?_)
                    have hw := hw.symm; subst hw
                    have hP : va_P D classes (mW k cI n (mU (setN ((setN ((setN ((setN ((setN ((setN (clr (cpA t d (cAr n j) 1024) (cHd n j) 512) (cHd n j) 8 6075990659671082565)) ((cHd n j) + 8) 4 65536)) ((cHd n j) + 12) 4 92)) ((cHd n j) + 24) 8 ((nI (cOwn n j)).toInt64))) ((cHd n j) + 32) 8 ((nI (cOth n j)).toInt64))) ((cHd n j) + 40) 8 4) (t) (mk))) H := by rw [mU_1] at hP; exact hP
                    refine lv_aload_n hx hb d_M_writeCopy_175 rfl (lv_at hl 2 rfl) ?_
                    refine va_get (D := D) (ci := 3) (v := .ref (k 1)) (C := R_M) (T := F_M) (N := 4) hx hb hts (fun w h => .tail _ (fi_M w h)) hown hK hP 0 rfl rfl 1 (by decide) (hts _ (.tail _ m_405)) (fun _ h9 => h9) rfl d_M_writeCopy_176 ?_
                    refine lv_iload_n hx hb d_M_writeCopy_179 rfl (lv_at hl 1 rfl) ?_
                    refine lv_bipush (v := nI 48) hx hb d_M_writeCopy_180 rfl ?_
                    refine lv_iaddN hx hb d_M_writeCopy_182 ?_
                    refine lv_bipush (v := nI 8) hx hb d_M_writeCopy_183 rfl ?_
                    refine lv_aload_n hx hb d_M_writeCopy_185 rfl (lv_at hl 2 rfl) ?_
                    refine va_get (D := D) (ci := 3) (v := .int (nI (n))) (C := R_M) (T := F_M) (N := 4) hx hb hts (fun w h => .tail _ (fi_M w h)) hown hK hP 0 rfl rfl 0 (by decide) (hts _ (.tail _ m_404)) (fun _ h9 => h9) rfl d_M_writeCopy_186 ?_
                    refine lv_iconst (v := nI 4) hx hb d_M_writeCopy_189 rfl ?_
                    refine lv_isubN hx hb d_M_writeCopy_190 (by omega) ?_
                    refine lv_i2l hx hb d_M_writeCopy_191 rfl ?_
                    refine g_callSv (As := [.ref (k 1), .int (nI ((cHd n j) + 48)), .int (nI (8)), .long ((nI (n - 4)).toInt64)]) (rest := []) ⟨hx, hb, hml, hown, hts⟩ (index := 29) (c_M_put l D k cI n A hn hn2 (mU (setN ((setN ((setN ((setN ((setN ((setN (clr (cpA t d (cAr n j) 1024) (cHd n j) 512) (cHd n j) 8 6075990659671082565)) ((cHd n j) + 8) 4 65536)) ((cHd n j) + 12) 4 92)) ((cHd n j) + 24) 8 ((nI (cOwn n j)).toInt64))) ((cHd n j) + 32) 8 ((nI (cOth n j)).toInt64))) ((cHd n j) + 40) 8 4) (t) (mk)) (1) (by omega) (by omega) ((cHd n j) + 48) (8) ((nI (n - 4)).toInt64) (by omega) (by omega)) (cwS 4 hts (gd_S m_513 m_514 m_33 m_515) rfl rfl rfl hd_M_put ⟨Nat.le_of_ble_eq_true rfl, Nat.le_of_ble_eq_true rfl⟩) mW_w mX_x hB hP hS rfl hl.1 rfl (Nat.le_of_ble_eq_true rfl) d_M_writeCopy_192 ⟨Nat.zero_le _, Nat.zero_le _⟩ (fun v_ H locs hw hP hS => ?_)
                    have hw := hw.symm; subst hw
                    have hP : va_P D classes (mW k cI n (mU (setN ((setN ((setN ((setN ((setN ((setN ((setN (clr (cpA t d (cAr n j) 1024) (cHd n j) 512) (cHd n j) 8 6075990659671082565)) ((cHd n j) + 8) 4 65536)) ((cHd n j) + 12) 4 92)) ((cHd n j) + 24) 8 ((nI (cOwn n j)).toInt64))) ((cHd n j) + 32) 8 ((nI (cOth n j)).toInt64))) ((cHd n j) + 40) 8 4)) ((cHd n j) + 48) 8 ((nI (n - 4)).toInt64)) (t) (mk))) H := by rw [mU_1] at hP; exact hP
                    refine lv_iconst (v := nI 0) hx hb d_M_writeCopy_195 rfl ?_
                    refine lv_istore_n (lv' := [(3, .int (nI (0))), (2, .int (nI (cHd n j))), (0, .ref (k 0)), (1, .int (nI (j)))]) hx hb d_M_writeCopy_196 rfl hl (by decide) rfl (fun ls hl => ?_)
                    have hP : va_P D classes (mW k cI n (mU (setN (setN (setN (setN (setN (setN (setN (clr (cpA t d (cAr n j) 1024) (cHd n j) 512) (cHd n j) 8 6075990659671082565) (cHd n j + 8) 4 65536) (cHd n j + 12) 4 92) (cHd n j + 24) 8 (nI (cOwn n j)).toInt64) (cHd n j + 32) 8 (nI (cOth n j)).toInt64) (cHd n j + 40) 8 4) (cHd n j + 48) 8 (nI (n - 4)).toInt64) (t) (mk))) H := hP
                    have hP : va_P D classes (mW k cI n (mU (cpA mk (setN (setN (setN (setN (setN (setN (setN (clr (cpA t d (cAr n j) 1024) (cHd n j) 512) (cHd n j) 8 6075990659671082565) (cHd n j + 8) 4 65536) (cHd n j + 12) 4 92) (cHd n j + 24) 8 (nI (cOwn n j)).toInt64) (cHd n j + 32) 8 (nI (cOth n j)).toInt64) (cHd n j + 40) 8 4) (cHd n j + 48) 8 (nI (n - 4)).toInt64) (cHd n j + 56) 0) (t) (mk))) H := by rw [cpA_0]; exact hP
                    have lp4 : ∀ (q4 : Nat) (i : Nat) (H : Heap) (locs : List Loc) (ls : Array Slot), (i ≤ 16) → (16 + 1 ≤ i + q4) → va_P D classes (mW k cI n (mU (cpA mk (setN (setN (setN (setN (setN (setN (setN (clr (cpA t d (cAr n j) 1024) (cHd n j) 512) (cHd n j) 8 6075990659671082565) (cHd n j + 8) 4 65536) (cHd n j + 12) 4 92) (cHd n j + 24) 8 (nI (cOwn n j)).toInt64) (cHd n j + 32) 8 (nI (cOth n j)).toInt64) (cHd n j + 40) 8 4) (cHd n j + 48) 8 (nI (n - 4)).toInt64) (cHd n j + 56) i) (t) (mk))) H → va_S A s.heap H locs → lv_has ls 4 [(3, .int (nI (i))), (2, .int (nI (cHd n j))), (0, .ref (k 0)), (1, .int (nI (j)))] → W p l e rm_M_writeCopy s m ([.ref (k 0), .int (nI (j))] : List Value).toArray below meth c H locs 0 0 (MQ below (va_Qv (fun v => v = mU (mWc n j t mk d) t mk) (mB D k cI n A) A) ([.ref (k 0), .int (nI (j))] : List Value).toArray s 0 0 A) (F0 m 197 ls []) := by
                      intro q4
                      induction q4 with
                      | zero =>
                        intro i H locs ls hi hq hP hS hl
                        exact absurd hq (by omega)
                      | succ q4 ih4 =>
                        intro i H locs ls hi hq hP hS hl
                        refine lv_iload_n hx hb d_M_writeCopy_197 rfl (lv_at hl 0 rfl) ?_
                        refine lv_bipush (v := nI 16) hx hb d_M_writeCopy_198 rfl ?_
                        refine lv_icmp_ge (tgt := 226) hx hb d_M_writeCopy_200 (by decide) (fun c_200 => ?_) (fun c_200 => ?_)
                        · have hik : i = 16 := ge_t hi (by omega) c_200
                          rw [hik] at hP
                          refine lv_aload_n hx hb d_M_writeCopy_226 rfl (lv_at hl 2 rfl) ?_
                          refine va_get (D := D) (ci := 3) (v := .ref (k 1)) (C := R_M) (T := F_M) (N := 4) hx hb hts (fun w h => .tail _ (fi_M w h)) hown hK hP 0 rfl rfl 1 (by decide) (hts _ (.tail _ m_405)) (fun _ h9 => h9) rfl d_M_writeCopy_227 ?_
                          refine lv_iload_n hx hb d_M_writeCopy_230 rfl (lv_at hl 1 rfl) ?_
                          refine lv_bipush (v := nI 72) hx hb d_M_writeCopy_231 rfl ?_
                          refine lv_iaddN hx hb d_M_writeCopy_233 ?_
                          refine lv_bipush (v := nI 8) hx hb d_M_writeCopy_234 rfl ?_
                          refine lv_aload_n hx hb d_M_writeCopy_236 rfl (lv_at hl 2 rfl) ?_
                          refine lv_iload_n hx hb d_M_writeCopy_237 rfl (lv_at hl 3 rfl) ?_
                          refine g_callVi (As := [.int (nI (j))]) (rest := [.int (nI (8)), .int (nI ((cHd n j) + 72)), .ref (k 1)]) ⟨hx, hb, hml, hown, hts⟩ (C := R_M) (index := 50) (c_M_array l D k cI n A hn hn2 (cpA mk (setN (setN (setN (setN (setN (setN (setN (clr (cpA t d (cAr n j) 1024) (cHd n j) 512) (cHd n j) 8 6075990659671082565) (cHd n j + 8) 4 65536) (cHd n j + 12) 4 92) (cHd n j + 24) 8 (nI (cOwn n j)).toInt64) (cHd n j + 32) 8 (nI (cOth n j)).toInt64) (cHd n j + 40) 8 4) (cHd n j + 48) 8 (nI (n - 4)).toInt64) (cHd n j + 56) 16) (t) (mk) (j) hj) (cwV 1 hts (gd_V m_471 m_473 m_18 m_33 m_474) rfl rfl rfl hd_M_array ⟨Nat.le_of_ble_eq_true rfl, Nat.le_of_ble_eq_true rfl⟩) mW_w mX_x hB hP hS (ci := 3) rfl (0) rfl rfl hl.1 rfl (Nat.le_of_ble_eq_true rfl) d_M_writeCopy_238 ⟨Nat.zero_le _, Nat.zero_le _⟩ (fun r_ v_ H locs hw hP hS => ?_)
                          obtain ⟨hw1, hw2⟩ := hw; have hw1 := hw1.symm; have hw2 := hw2.symm; subst hw1; subst hw2
                          refine lv_i2l hx hb d_M_writeCopy_241 rfl ?_
                          refine g_callSv (As := [.ref (k 1), .int (nI ((cHd n j) + 72)), .int (nI (8)), .long ((nI (cArr n j)).toInt64)]) (rest := []) ⟨hx, hb, hml, hown, hts⟩ (index := 29) (c_M_put l D k cI n A hn hn2 (mU (cpA mk (setN (setN (setN (setN (setN (setN (setN (clr (cpA t d (cAr n j) 1024) (cHd n j) 512) (cHd n j) 8 6075990659671082565) (cHd n j + 8) 4 65536) (cHd n j + 12) 4 92) (cHd n j + 24) 8 (nI (cOwn n j)).toInt64) (cHd n j + 32) 8 (nI (cOth n j)).toInt64) (cHd n j + 40) 8 4) (cHd n j + 48) 8 (nI (n - 4)).toInt64) (cHd n j + 56) 16) (t) (mk)) (1) (by omega) (by omega) ((cHd n j) + 72) (8) ((nI (cArr n j)).toInt64) (by omega) (by omega)) (cwS 4 hts (gd_S m_513 m_514 m_33 m_515) rfl rfl rfl hd_M_put ⟨Nat.le_of_ble_eq_true rfl, Nat.le_of_ble_eq_true rfl⟩) mW_w mX_x hB hP hS rfl hl.1 rfl (Nat.le_of_ble_eq_true rfl) d_M_writeCopy_242 ⟨Nat.zero_le _, Nat.zero_le _⟩ (fun v_ H locs hw hP hS => ?_)
                          have hw := hw.symm; subst hw
                          have hP : va_P D classes (mW k cI n (mU (setN ((cpA mk (setN (setN (setN (setN (setN (setN (setN (clr (cpA t d (cAr n j) 1024) (cHd n j) 512) (cHd n j) 8 6075990659671082565) (cHd n j + 8) 4 65536) (cHd n j + 12) 4 92) (cHd n j + 24) 8 (nI (cOwn n j)).toInt64) (cHd n j + 32) 8 (nI (cOth n j)).toInt64) (cHd n j + 40) 8 4) (cHd n j + 48) 8 (nI (n - 4)).toInt64) (cHd n j + 56) 16)) ((cHd n j) + 72) 8 ((nI (cArr n j)).toInt64)) (t) (mk))) H := by rw [mU_1] at hP; exact hP
                          refine lv_aload_n hx hb d_M_writeCopy_245 rfl (lv_at hl 2 rfl) ?_
                          refine va_get (D := D) (ci := 3) (v := .ref (k 1)) (C := R_M) (T := F_M) (N := 4) hx hb hts (fun w h => .tail _ (fi_M w h)) hown hK hP 0 rfl rfl 1 (by decide) (hts _ (.tail _ m_405)) (fun _ h9 => h9) rfl d_M_writeCopy_246 ?_
                          refine lv_iload_n hx hb d_M_writeCopy_249 rfl (lv_at hl 1 rfl) ?_
                          refine lv_bipush (v := nI 80) hx hb d_M_writeCopy_250 rfl ?_
                          refine lv_iaddN hx hb d_M_writeCopy_252 ?_
                          refine lv_iconst (v := nI 4) hx hb d_M_writeCopy_253 rfl ?_
                          refine lv_ldc2 (v := 8) hx hb hown (hts _ (.tail _ m_475)) d_M_writeCopy_254 ?_
                          refine g_callSv (As := [.ref (k 1), .int (nI ((cHd n j) + 80)), .int (nI (4)), .long (8)]) (rest := []) ⟨hx, hb, hml, hown, hts⟩ (index := 29) (c_M_put l D k cI n A hn hn2 (mU (setN ((cpA mk (setN (setN (setN (setN (setN (setN (setN (clr (cpA t d (cAr n j) 1024) (cHd n j) 512) (cHd n j) 8 6075990659671082565) (cHd n j + 8) 4 65536) (cHd n j + 12) 4 92) (cHd n j + 24) 8 (nI (cOwn n j)).toInt64) (cHd n j + 32) 8 (nI (cOth n j)).toInt64) (cHd n j + 40) 8 4) (cHd n j + 48) 8 (nI (n - 4)).toInt64) (cHd n j + 56) 16)) ((cHd n j) + 72) 8 ((nI (cArr n j)).toInt64)) (t) (mk)) (1) (by omega) (by omega) ((cHd n j) + 80) (4) (8) (by omega) (by omega)) (cwS 4 hts (gd_S m_513 m_514 m_33 m_515) rfl rfl rfl hd_M_put ⟨Nat.le_of_ble_eq_true rfl, Nat.le_of_ble_eq_true rfl⟩) mW_w mX_x hB hP hS rfl hl.1 rfl (Nat.le_of_ble_eq_true rfl) d_M_writeCopy_257 ⟨Nat.zero_le _, Nat.zero_le _⟩ (fun v_ H locs hw hP hS => ?_)
                          have hw := hw.symm; subst hw
                          have hP : va_P D classes (mW k cI n (mU (setN ((setN ((cpA mk (setN (setN (setN (setN (setN (setN (setN (clr (cpA t d (cAr n j) 1024) (cHd n j) 512) (cHd n j) 8 6075990659671082565) (cHd n j + 8) 4 65536) (cHd n j + 12) 4 92) (cHd n j + 24) 8 (nI (cOwn n j)).toInt64) (cHd n j + 32) 8 (nI (cOth n j)).toInt64) (cHd n j + 40) 8 4) (cHd n j + 48) 8 (nI (n - 4)).toInt64) (cHd n j + 56) 16)) ((cHd n j) + 72) 8 ((nI (cArr n j)).toInt64))) ((cHd n j) + 80) 4 8) (t) (mk))) H := by rw [mU_1] at hP; exact hP
                          refine lv_aload_n hx hb d_M_writeCopy_260 rfl (lv_at hl 2 rfl) ?_
                          refine va_get (D := D) (ci := 3) (v := .ref (k 1)) (C := R_M) (T := F_M) (N := 4) hx hb hts (fun w h => .tail _ (fi_M w h)) hown hK hP 0 rfl rfl 1 (by decide) (hts _ (.tail _ m_405)) (fun _ h9 => h9) rfl d_M_writeCopy_261 ?_
                          refine lv_iload_n hx hb d_M_writeCopy_264 rfl (lv_at hl 1 rfl) ?_
                          refine lv_bipush (v := nI 84) hx hb d_M_writeCopy_265 rfl ?_
                          refine lv_iaddN hx hb d_M_writeCopy_267 ?_
                          refine lv_iconst (v := nI 4) hx hb d_M_writeCopy_268 rfl ?_
                          refine lv_ldc2 (v := 128) hx hb hown (hts _ (.tail _ m_476)) d_M_writeCopy_269 ?_
                          refine g_callSv (As := [.ref (k 1), .int (nI ((cHd n j) + 84)), .int (nI (4)), .long (128)]) (rest := []) ⟨hx, hb, hml, hown, hts⟩ (index := 29) (c_M_put l D k cI n A hn hn2 (mU (setN ((setN ((cpA mk (setN (setN (setN (setN (setN (setN (setN (clr (cpA t d (cAr n j) 1024) (cHd n j) 512) (cHd n j) 8 6075990659671082565) (cHd n j + 8) 4 65536) (cHd n j + 12) 4 92) (cHd n j + 24) 8 (nI (cOwn n j)).toInt64) (cHd n j + 32) 8 (nI (cOth n j)).toInt64) (cHd n j + 40) 8 4) (cHd n j + 48) 8 (nI (n - 4)).toInt64) (cHd n j + 56) 16)) ((cHd n j) + 72) 8 ((nI (cArr n j)).toInt64))) ((cHd n j) + 80) 4 8) (t) (mk)) (1) (by omega) (by omega) ((cHd n j) + 84) (4) (128) (by omega) (by omega)) (cwS 4 hts (gd_S m_513 m_514 m_33 m_515) rfl rfl rfl hd_M_put ⟨Nat.le_of_ble_eq_true rfl, Nat.le_of_ble_eq_true rfl⟩) mW_w mX_x hB hP hS rfl hl.1 rfl (Nat.le_of_ble_eq_true rfl) d_M_writeCopy_272 ⟨Nat.zero_le _, Nat.zero_le _⟩ (fun v_ H locs hw hP hS => ?_)
                          have hw := hw.symm; subst hw
                          have hP : va_P D classes (mW k cI n (mU (setN ((setN ((setN ((cpA mk (setN (setN (setN (setN (setN (setN (setN (clr (cpA t d (cAr n j) 1024) (cHd n j) 512) (cHd n j) 8 6075990659671082565) (cHd n j + 8) 4 65536) (cHd n j + 12) 4 92) (cHd n j + 24) 8 (nI (cOwn n j)).toInt64) (cHd n j + 32) 8 (nI (cOth n j)).toInt64) (cHd n j + 40) 8 4) (cHd n j + 48) 8 (nI (n - 4)).toInt64) (cHd n j + 56) 16)) ((cHd n j) + 72) 8 ((nI (cArr n j)).toInt64))) ((cHd n j) + 80) 4 8)) ((cHd n j) + 84) 4 128) (t) (mk))) H := by rw [mU_1] at hP; exact hP
                          refine lv_aload_n hx hb d_M_writeCopy_275 rfl (lv_at hl 2 rfl) ?_
                          refine lv_iload_n hx hb d_M_writeCopy_276 rfl (lv_at hl 3 rfl) ?_
                          refine g_callVi (As := [.int (nI (j))]) (rest := []) ⟨hx, hb, hml, hown, hts⟩ (C := R_M) (index := 110) (c_M_sealJ l D k cI n A hn hn2 (setN ((setN ((setN ((cpA mk (setN (setN (setN (setN (setN (setN (setN (clr (cpA t d (cAr n j) 1024) (cHd n j) 512) (cHd n j) 8 6075990659671082565) (cHd n j + 8) 4 65536) (cHd n j + 12) 4 92) (cHd n j + 24) 8 (nI (cOwn n j)).toInt64) (cHd n j + 32) 8 (nI (cOth n j)).toInt64) (cHd n j + 40) 8 4) (cHd n j + 48) 8 (nI (n - 4)).toInt64) (cHd n j + 56) 16)) ((cHd n j) + 72) 8 ((nI (cArr n j)).toInt64))) ((cHd n j) + 80) 4 8)) ((cHd n j) + 84) 4 128) (t) (mk) (j) hj) (cwV 1 hts (gd_V m_538 m_510 m_511 m_33 m_512) rfl rfl rfl hd_M_seal ⟨Nat.le_of_ble_eq_true rfl, Nat.le_of_ble_eq_true rfl⟩) mW_w mX_x hB hP hS (ci := 3) rfl (0) rfl rfl hl.1 rfl (Nat.le_of_ble_eq_true rfl) d_M_writeCopy_277 ⟨Nat.zero_le _, Nat.zero_le _⟩ (fun r_ v_ H locs hw hP hS => ?_)
                          obtain ⟨hw1, hw2⟩ := hw; have hw1 := hw1.symm; have hw2 := hw2.symm; subst hw1; subst hw2
                          refine lv_pop hx hb d_M_writeCopy_280 rfl ?_
                          exact g_vret hx hb hr hlk mW_w mX_x hB hP hS (rfl) d_M_writeCopy_281
                        · have hik : i < 16 := ge_f (by omega) (by omega) c_200
                          refine lv_aload_n hx hb d_M_writeCopy_203 rfl (lv_at hl 2 rfl) ?_
                          refine va_get (D := D) (ci := 3) (v := .ref (k 1)) (C := R_M) (T := F_M) (N := 4) hx hb hts (fun w h => .tail _ (fi_M w h)) hown hK hP 0 rfl rfl 1 (by decide) (hts _ (.tail _ m_405)) (fun _ h9 => h9) rfl d_M_writeCopy_204 ?_
                          refine lv_iload_n hx hb d_M_writeCopy_207 rfl (lv_at hl 1 rfl) ?_
                          refine lv_bipush (v := nI 56) hx hb d_M_writeCopy_208 rfl ?_
                          refine lv_iaddN hx hb d_M_writeCopy_210 ?_
                          refine lv_iload_n hx hb d_M_writeCopy_211 rfl (lv_at hl 0 rfl) ?_
                          refine lv_iaddN hx hb d_M_writeCopy_212 ?_
                          refine lv_aload_n hx hb d_M_writeCopy_213 rfl (lv_at hl 2 rfl) ?_
                          refine va_get (D := D) (ci := 3) (v := .ref (k 3)) (C := R_M) (T := F_M) (N := 4) hx hb hts (fun w h => .tail _ (fi_M w h)) hown hK hP 0 rfl rfl 3 (by decide) (hts _ (.tail _ m_407)) (fun _ h9 => h9) rfl d_M_writeCopy_214 ?_
                          refine lv_iload_n hx hb d_M_writeCopy_217 rfl (lv_at hl 0 rfl) ?_
                          refine m_iald hx hb hB hP (i := 3) (by decide) (by decide) (a := i) (by omega) d_M_writeCopy_218 ?_
                          refine m_iast hx hb hB hP hS (i := 1) (by decide) (by decide) (a := ((cHd n j) + 56) + i) (y := mk i) (rfl) (by omega) d_M_writeCopy_219 (fun H locs hP hS => ?_)
                          have hP : va_P D classes (mW k cI n (mU (va_up (cpA mk (setN (setN (setN (setN (setN (setN (setN (clr (cpA t d (cAr n j) 1024) (cHd n j) 512) (cHd n j) 8 6075990659671082565) (cHd n j + 8) 4 65536) (cHd n j + 12) 4 92) (cHd n j + 24) 8 (nI (cOwn n j)).toInt64) (cHd n j + 32) 8 (nI (cOth n j)).toInt64) (cHd n j + 40) 8 4) (cHd n j + 48) 8 (nI (n - 4)).toInt64) (cHd n j + 56) i) (((cHd n j) + 56) + i) (mk i)) (t) (mk))) H := by rw [mU_1] at hP; exact hP
                          rw [cpA_s] at hP
                          refine lv_iinc (v := (nI (i + 1))) (lv' := [(3, .int (nI (i + 1))), (2, .int (nI (cHd n j))), (0, .ref (k 0)), (1, .int (nI (j)))]) hx hb d_M_writeCopy_220 hl (k := 0) rfl (nI_add _ _) (by decide) rfl (fun ls hl => ?_)
                          refine lv_goto (tgt := 197) hx hb d_M_writeCopy_223 (by decide) ?_
                          exact ih4 (i + 1) _ _ _ (by omega) (by omega) hP hS (lv_sub hl [0, 1, 2, 3] rfl)
                    exact lp4 (16 + 1) 0 _ _ _ (Nat.zero_le _) (by omega) hP hS (lv_sub hl [0, 1, 2, 3] rfl)
                  · have hik : i < 8 := ge_f (by omega) (by omega) c_68
                    refine lv_aload_n hx hb d_M_writeCopy_71 rfl (lv_at hl 2 rfl) ?_
                    refine va_get (D := D) (ci := 3) (v := .ref (k 1)) (C := R_M) (T := F_M) (N := 4) hx hb hts (fun w h => .tail _ (fi_M w h)) hown hK hP 0 rfl rfl 1 (by decide) (hts _ (.tail _ m_405)) (fun _ h9 => h9) rfl d_M_writeCopy_72 ?_
                    refine lv_iload_n hx hb d_M_writeCopy_75 rfl (lv_at hl 1 rfl) ?_
                    refine lv_iload_n hx hb d_M_writeCopy_76 rfl (lv_at hl 0 rfl) ?_
                    refine lv_iaddN hx hb d_M_writeCopy_77 ?_
                    refine lv_iload_n hx hb d_M_writeCopy_78 rfl (lv_at hl 0 rfl) ?_
                    refine g_callSi (As := [.int (nI (i))]) (rest := [.int (nI ((cHd n j) + i)), .ref (k 1)]) ⟨hx, hb, hml, hown, hts⟩ (index := 85) (c_M_letterOf l D k cI n A hn hn2 (mU (setN (clr (cpA t d (cAr n j) 1024) (cHd n j) 512) (cHd n j) i 6075990659671082565) (t) (mk)) (i) (by omega)) (cwS 1 hts (gd_S m_465 m_466 m_33 m_467) rfl rfl rfl hd_M_letterOf ⟨Nat.le_of_ble_eq_true rfl, Nat.le_of_ble_eq_true rfl⟩) mW_w mX_x hB hP hS rfl hl.1 rfl (Nat.le_of_ble_eq_true rfl) d_M_writeCopy_79 ⟨Nat.zero_le _, Nat.zero_le _⟩ (fun r_ v_ H locs hw hP hS => ?_)
                    obtain ⟨hw1, hw2⟩ := hw; have hw1 : r_ = (zx (byt 6075990659671082565 i)) := hw1; have hw1 := hw1.symm; have hw2 := hw2.symm; subst hw1; subst hw2
                    refine m_iast hx hb hB hP hS (i := 1) (by decide) (by decide) (a := (cHd n j) + i) (y := byt 6075990659671082565 i) (rfl) (by omega) d_M_writeCopy_82 (fun H locs hP hS => ?_)
                    have hP : va_P D classes (mW k cI n (mU (va_up (setN (clr (cpA t d (cAr n j) 1024) (cHd n j) 512) (cHd n j) i 6075990659671082565) ((cHd n j) + i) (byt 6075990659671082565 i)) (t) (mk))) H := by rw [mU_1] at hP; exact hP
                    rw [setN_s] at hP
                    refine lv_iinc (v := (nI (i + 1))) (lv' := [(3, .int (nI (i + 1))), (2, .int (nI (cHd n j))), (0, .ref (k 0)), (1, .int (nI (j)))]) hx hb d_M_writeCopy_83 hl (k := 0) rfl (nI_add _ _) (by decide) rfl (fun ls hl => ?_)
                    refine lv_goto (tgt := 65) hx hb d_M_writeCopy_86 (by decide) ?_
                    exact ih3 (i + 1) _ _ _ (by omega) (by omega) hP hS (lv_sub hl [0, 1, 2, 3] rfl)
              exact lp3 (8 + 1) 0 _ _ _ (Nat.zero_le _) (by omega) hP hS (lv_sub hl [0, 1, 2, 3] rfl)
            · have hik : i < 512 := ge_f (by omega) (by omega) c_45
              refine lv_aload_n hx hb d_M_writeCopy_48 rfl (lv_at hl 2 rfl) ?_
              refine va_get (D := D) (ci := 3) (v := .ref (k 1)) (C := R_M) (T := F_M) (N := 4) hx hb hts (fun w h => .tail _ (fi_M w h)) hown hK hP 0 rfl rfl 1 (by decide) (hts _ (.tail _ m_405)) (fun _ h9 => h9) rfl d_M_writeCopy_49 ?_
              refine lv_iload_n hx hb d_M_writeCopy_52 rfl (lv_at hl 1 rfl) ?_
              refine lv_iload_n hx hb d_M_writeCopy_53 rfl (lv_at hl 0 rfl) ?_
              refine lv_iaddN hx hb d_M_writeCopy_54 ?_
              refine lv_iconst (v := nI 0) hx hb d_M_writeCopy_55 rfl ?_
              refine m_iast hx hb hB hP hS (i := 1) (by decide) (by decide) (a := (cHd n j) + i) (y := 0) (rfl) (by omega) d_M_writeCopy_56 (fun H locs hP hS => ?_)
              have hP : va_P D classes (mW k cI n (mU (va_up (clr (cpA t d (cAr n j) 1024) (cHd n j) i) ((cHd n j) + i) 0) (t) (mk))) H := by rw [mU_1] at hP; exact hP
              rw [clr_s] at hP
              refine lv_iinc (v := (nI (i + 1))) (lv' := [(3, .int (nI (i + 1))), (2, .int (nI (cHd n j))), (0, .ref (k 0)), (1, .int (nI (j)))]) hx hb d_M_writeCopy_57 hl (k := 0) rfl (nI_add _ _) (by decide) rfl (fun ls hl => ?_)
              refine lv_goto (tgt := 41) hx hb d_M_writeCopy_60 (by decide) ?_
              exact ih2 (i + 1) _ _ _ (by omega) (by omega) hP hS (lv_sub hl [0, 1, 2, 3] rfl)
        exact lp2 (512 + 1) 0 _ _ _ (Nat.zero_le _) (by omega) hP hS (lv_sub hl [0, 1, 2, 3] rfl)
      · have hik : i < 1024 := ge_f (by omega) (by omega) c_12
        refine lv_aload_n hx hb d_M_writeCopy_15 rfl (lv_at hl 2 rfl) ?_
        refine va_get (D := D) (ci := 3) (v := .ref (k 1)) (C := R_M) (T := F_M) (N := 4) hx hb hts (fun w h => .tail _ (fi_M w h)) hown hK hP 0 rfl rfl 1 (by decide) (hts _ (.tail _ m_405)) (fun _ h9 => h9) rfl d_M_writeCopy_16 ?_
        refine lv_aload_n hx hb d_M_writeCopy_19 rfl (lv_at hl 2 rfl) ?_
        refine lv_iload_n hx hb d_M_writeCopy_20 rfl (lv_at hl 3 rfl) ?_
        refine g_callVi (As := [.int (nI (j))]) (rest := [.ref (k 1)]) ⟨hx, hb, hml, hown, hts⟩ (C := R_M) (index := 96) (c_M_arrayAt l D k cI n A hn hn2 (cpA t d (cAr n j) i) (t) (mk) (j) hj) (cwV 1 hts (gd_V m_477 m_479 m_19 m_33 m_480) rfl rfl rfl hd_M_arrayAt ⟨Nat.le_of_ble_eq_true rfl, Nat.le_of_ble_eq_true rfl⟩) mW_w mX_x hB hP hS (ci := 3) rfl (0) rfl rfl hl.1 rfl (Nat.le_of_ble_eq_true rfl) d_M_writeCopy_21 ⟨Nat.zero_le _, Nat.zero_le _⟩ (fun r_ v_ H locs hw hP hS => ?_)
        obtain ⟨hw1, hw2⟩ := hw; have hw1 := hw1.symm; have hw2 := hw2.symm; subst hw1; subst hw2
        refine lv_iload_n hx hb d_M_writeCopy_24 rfl (lv_at hl 0 rfl) ?_
        refine lv_iaddN hx hb d_M_writeCopy_25 ?_
        refine lv_aload_n hx hb d_M_writeCopy_26 rfl (lv_at hl 2 rfl) ?_
        refine va_get (D := D) (ci := 3) (v := .ref (k 2)) (C := R_M) (T := F_M) (N := 4) hx hb hts (fun w h => .tail _ (fi_M w h)) hown hK hP 0 rfl rfl 2 (by decide) (hts _ (.tail _ m_406)) (fun _ h9 => h9) rfl d_M_writeCopy_27 ?_
        refine lv_iload_n hx hb d_M_writeCopy_30 rfl (lv_at hl 0 rfl) ?_
        refine m_iald hx hb hB hP (i := 2) (by decide) (by decide) (a := i) (by omega) d_M_writeCopy_31 ?_
        refine m_iast hx hb hB hP hS (i := 1) (by decide) (by decide) (a := (cAr n j) + i) (y := t i) (rfl) (by omega) d_M_writeCopy_32 (fun H locs hP hS => ?_)
        have hP : va_P D classes (mW k cI n (mU (va_up (cpA t d (cAr n j) i) ((cAr n j) + i) (t i)) (t) (mk))) H := by rw [mU_1] at hP; exact hP
        rw [cpA_s] at hP
        refine lv_iinc (v := (nI (i + 1))) (lv' := [(3, .int (nI (i + 1))), (2, .int (nI (cHd n j))), (0, .ref (k 0)), (1, .int (nI (j)))]) hx hb d_M_writeCopy_33 hl (k := 0) rfl (nI_add _ _) (by decide) rfl (fun ls hl => ?_)
        refine lv_goto (tgt := 8) hx hb d_M_writeCopy_36 (by decide) ?_
        exact ih (i + 1) _ _ _ (by omega) (by omega) hP hS (lv_sub hl [0, 1, 2, 3] rfl)
  exact lp (1024 + 1) 0 _ _ _ (Nat.zero_le _) (by omega) hP hS (lv_sub hl [0, 1, 2, 3] rfl)
abbrev w_M_writeTable : List Cond := .code y_M_writeTable b_M_writeTable 1 none :: ALL
abbrev rm_M_writeTable : Room := { frames := 4, cells := 0, slots := 0, locals := 94 }
theorem hd_M_writeTable : y_M_writeTable.cls = R_M ∧ y_M_writeTable.cls ≠ "java/lang/invoke/MethodHandle" ∧ y_M_writeTable.cls ≠ "java/lang/invoke/VarHandle" ∧ (parseMethodDescriptor y_M_writeTable.desc).map (fun d => d.parameters.length) = some 0 := by decide +kernel
set_option maxHeartbeats 4000000 in
set_option maxRecDepth 100000 in
theorem c_M_writeTable (l : Launch) (D : va_G) (k : Nat → Nat) (cI : Nat → ClassId) (n : Nat) (A : Nat → Prop) (hn : 12 ≤ n) (hn2 : n ≤ 24) (d t mk : Nat → BitVec 8)  : Met l y_M_writeTable w_M_writeTable rm_M_writeTable (va_Pc [.ref (k 0)] (mB D k cI n A (mU d t mk))) (va_Qv (fun v => v = mU (wTm n t mk d) t mk) (mB D k cI n A) A) 0 0 A := by
  refine g_ofW (cc := b_M_writeTable) (maxL := 1) (ret := none) (by decide) rfl (Nat.le_of_ble_eq_true rfl) ?_
  intro p e s m below meth c ls hx hb hml hr hlk hown hts hnm hB hl
  have hown : s.vm.findClass R_M = some m.cls := hown
  have hP := hB.1
  have hK := hB.2.1
  obtain ⟨H, hH⟩ : ∃ H, H = s.heap := ⟨_, rfl⟩
  have hS : va_S A s.heap H [] := by rw [hH]; exact va_S.rf
  rw [← hH] at hP ⊢
  have hl : lv_has ls 1 [(0, .ref (k 0))] := hl
  have z1 : mSz 1 = 12288 := rfl
  have z2 : mSz 2 = 1024 := rfl
  have z3 : mSz 3 = 16 := rfl
  refine lv_aload_n hx hb d_M_writeTable_0 rfl (lv_at hl 0 rfl) ?_
  refine lv_iconst (v := nI 0) hx hb d_M_writeTable_1 rfl ?_
  refine g_callVv (As := [.int (nI (0))]) (rest := []) ⟨hx, hb, hml, hown, hts⟩ (C := R_M) (index := 113) (c_M_writeCopy l D k cI n A hn hn2 (d) (t) (mk) (0) (by omega)) (cwV 1 hts (gd_V m_534 m_536 m_24 m_33 m_537) rfl rfl rfl hd_M_writeCopy ⟨Nat.le_of_ble_eq_true rfl, Nat.le_of_ble_eq_true rfl⟩) mW_w mX_x hB hP hS (ci := 3) rfl (0) rfl rfl hl.1 rfl (Nat.le_of_ble_eq_true rfl) d_M_writeTable_2 ⟨Nat.zero_le _, Nat.zero_le _⟩ (fun v_ H locs hw hP hS => ?_)
  have hw := hw.symm; subst hw
  refine lv_aload_n hx hb d_M_writeTable_5 rfl (lv_at hl 0 rfl) ?_
  refine lv_iconst (v := nI 1) hx hb d_M_writeTable_6 rfl ?_
  refine g_callVv (As := [.int (nI (1))]) (rest := []) ⟨hx, hb, hml, hown, hts⟩ (C := R_M) (index := 113) (c_M_writeCopy l D k cI n A hn hn2 (mWc n 0 t mk d) (t) (mk) (1) (by omega)) (cwV 1 hts (gd_V m_534 m_536 m_24 m_33 m_537) rfl rfl rfl hd_M_writeCopy ⟨Nat.le_of_ble_eq_true rfl, Nat.le_of_ble_eq_true rfl⟩) mW_w mX_x hB hP hS (ci := 3) rfl (0) rfl rfl hl.1 rfl (Nat.le_of_ble_eq_true rfl) d_M_writeTable_7 ⟨Nat.zero_le _, Nat.zero_le _⟩ (fun v_ H locs hw hP hS => ?_)
  have hw := hw.symm; subst hw
  exact g_vret hx hb hr hlk mW_w mX_x hB hP hS (rfl) d_M_writeTable_10
