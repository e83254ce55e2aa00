def nOf (x : Int32) : Nat := if x < nI 12 ∨ ¬ x ≤ nI 24 then 16 else x.toNatClampNeg
theorem nOf_r {x : Int32} (h1 : ¬ x < nI 12) (h2 : x ≤ nI 24) : ∃ a, 12 ≤ a ∧ a ≤ 24 ∧ x = nI a := by
  obtain ⟨a, ha, rfl⟩ := nI_of2 (M := nI 24) (n := 24) (by decide) (x := x) (fun q => h1 (Int32.lt_trans q (by decide))) h2
  refine ⟨a, ?_, ha, rfl⟩
  rcases Nat.lt_or_ge a 12 with z | z
  · exact absurd (nI_lt z (by decide)) h1
  · exact z
theorem nOf_le (x : Int32) : 12 ≤ nOf x ∧ nOf x ≤ 24 := by
  unfold nOf
  by_cases h : x < nI 12 ∨ ¬ x ≤ nI 24
  · rw [if_pos h]; decide
  · rw [if_neg h]
    obtain ⟨a, h1, h2, rfl⟩ := nOf_r (fun z => h (Or.inl z)) (Classical.byContradiction (fun z => h (Or.inr z)))
    rw [nI_clamp (by omega)]
    exact ⟨h1, h2⟩
theorem nOf_a {x : Int32} (h : x < nI 12) : nI 16 = nI (nOf x) := by rw [nOf, if_pos (Or.inl h)]
theorem nOf_b {x : Int32} (h : ¬ x ≤ nI 24) : nI 16 = nI (nOf x) := by rw [nOf, if_pos (Or.inr h)]
theorem nOf_c {x : Int32} (h1 : ¬ x < nI 12) (h2 : x ≤ nI 24) : x = nI (nOf x) := by
  rw [nOf, if_neg (fun z => z.elim h1 (fun z => z h2))]
  obtain ⟨a, h3, h4, rfl⟩ := nOf_r h1 h2
  rw [nI_clamp (by omega)]
abbrev w_B_init : List Cond := .code y_B_init b_B_init 2 none :: ALL
abbrev rm_B_init : Room := { frames := 1, cells := 1, slots := 12288, locals := 20 }
theorem hd_B_init : y_B_init.cls = R_B ∧ y_B_init.cls ≠ "java/lang/invoke/MethodHandle" ∧ y_B_init.cls ≠ "java/lang/invoke/VarHandle" ∧ (parseMethodDescriptor y_B_init.desc).map (fun d => d.parameters.length) = some 1 := by decide +kernel
set_option maxHeartbeats 4000000 in
set_option maxRecDepth 100000 in
theorem c_B_init (l : Launch) (D : va_G) (A : Nat → Prop) (q0 sz : Nat) (hA : ∀ z, sz ≤ z → A z) (N : Nat) (hN : N ≤ 12288) : Met l y_B_init w_B_init rm_B_init (va_Pc [.ref (q0), .int (nI (N))] (fun U => U.heap.size = sz ∧ va_P D classes [(q0, .inr (1, [.null]))] U.heap ∧ va_K D classes [] U ∧ va_D A [(q0, .inr (1, [.null]))])) (va_Qv (fun _ : Nat × ClassId => True) (fun u t => va_P D classes [(q0, .inr (1, [.ref u.1])), (u.1, .inl (u.2, N, .inl (fun z => sx ((fun _ => 0) z))))] t.heap ∧ va_K D classes [(u.2, .byte)] t ∧ va_D A [(q0, .inr (1, [.ref u.1])), (u.1, .inl (u.2, N, .inl (fun z => sx ((fun _ => 0) z))))]) A) 1 12288 A := by
  refine g_ofW (cc := b_B_init) (maxL := 2) (ret := none) (by decide) rfl (Nat.le_of_ble_eq_true rfl) ?_
  intro p e s m below meth c ls hx hb hml hr hlk hown hts hnm hB hl
  have hown : s.vm.findClass R_B = some m.cls := hown
  have hin : meth.name = "<init>" := hnm
  obtain ⟨rfl, hP, hK, hD⟩ := hB
  have hS : va_S A s.heap s.heap [] := va_S.rf
  have hl : lv_has ls 2 [(0, .ref (q0)), (1, .int (nI (N)))] := hl
  refine lv_aload_n hx hb d_B_init_0 rfl (lv_at hl 0 rfl) ?_
  refine W.objInit hx hb hown (hts _ (.tail _ m_48)) (hts _ (.tail _ m_41)) (hts _ (.tail _ m_42)) rfl (by rw [hml]; exact hl.1) rfl d_B_init_1 (Nat.le_of_ble_eq_true rfl) (Nat.le_of_ble_eq_true rfl) ?_
  refine W.eq (g2 := F0 m 4 ls []) rfl ?_
  refine lv_aload_n hx hb d_B_init_4 rfl (lv_at hl 0 rfl) ?_
  refine lv_iload_n hx hb d_B_init_5 rfl (lv_at hl 1 rfl) ?_
  refine va_newa (a0 := (N, .inl (fun z => sx ((fun _ => 0) z)))) (atype := .byte) (ty := .byte) hx hb (hts _ (.tail _ m_53)) rfl hK hP hD hS hA (fun _ => by rw [show (fun z : Nat => sx ((fun _ => 0) z)) = fun _ => (0 : Int32) from funext (fun _ => (by decide : sx 0 = 0))]; rfl) (nI_pos (by omega)) (nI_clamp (by omega)) (by show N * 1 ≤ 536870912; omega) (Nat.le_of_ble_eq_true rfl) (by show 0 + N ≤ 12288; omega) d_B_init_6 (fun w1 c1 H hK hP hD hS => ?_)
  have hP : va_P D classes [(q0, .inr (1, [.null])), (w1, .inl (c1, N, .inl (fun z => sx ((fun _ => 0) z))))] H := hP
  have hD : va_D A [(q0, .inr (1, [.null])), (w1, .inl (c1, N, .inl (fun z => sx ((fun _ => 0) z))))] := hD
  have hK : va_K D classes [(c1, .byte)] s := hK
  refine W.widen (k := 1) (n := 12288) (by decide) (by omega) ?_
  refine va_putF (D := D) (ci := 1) (v := .ref (w1)) (ty := .array .byte) (C := R_B) (T := F_B) (N := 1) hx hb hts (fun w h => .tail _ (fi_B w h)) ft_B ft_B_ok fn_B hown hK hP hD hS 0 rfl rfl 0 (by decide) (hts _ (.tail _ m_49)) (fun _ h9 => h9) rfl hin rfl (by decide +kernel) rfl rfl (Nat.le_of_ble_eq_true rfl) d_B_init_8 (fun H locs hP hD hS => ?_)
  have hP : va_P D classes [(q0, .inr (1, [.ref (w1)])), (w1, .inl (c1, N, .inl (fun z => sx ((fun _ => 0) z))))] H := hP
  have hD : va_D A [(q0, .inr (1, [.ref (w1)])), (w1, .inl (c1, N, .inl (fun z => sx ((fun _ => 0) z))))] := hD
  refine W.widen (k := 1) (n := 12288) (Nat.le_of_ble_eq_true rfl) (Nat.le_of_ble_eq_true rfl) ?_
  exact W.vret hx hb hr (fun t ht hW => ⟨⟨(w1, c1), rfl, trivial, by rw [ht]; exact hP.sub [0, 1] rfl, va_K.moved hW.alike (hK.sub [0] rfl), hD.sub [0, 1] (by decide) rfl⟩, hS.F ht⟩) hS.2.2 d_B_init_11 hlk
abbrev w_C_init : List Cond := .code y_C_init b_C_init 4 none :: ALL
abbrev rm_C_init : Room := { frames := 1, cells := 0, slots := 0, locals := 20 }
theorem hd_C_init : y_C_init.cls = R_C ∧ y_C_init.cls ≠ "java/lang/invoke/MethodHandle" ∧ y_C_init.cls ≠ "java/lang/invoke/VarHandle" ∧ (parseMethodDescriptor y_C_init.desc).map (fun d => d.parameters.length) = some 3 := by decide +kernel
set_option maxHeartbeats 4000000 in
set_option maxRecDepth 100000 in
theorem c_C_init (l : Launch) (D : va_G) (A : Nat → Prop) (q0 sz : Nat) (hA : ∀ z, sz ≤ z → A z) (hbb n : Nat) (hn : 12 ≤ n) : Met l y_C_init w_C_init rm_C_init (va_Pc [.ref (q0), .ref (hbb), .int (nI (n)), .int (nI (0))] (fun U => U.heap.size = sz ∧ va_P D classes [(q0, .inr (2, [.int (nI (0)), .null, .int (nI (0)), .int (nI (0)), .int (nI (0)), .int (nI (0)), .int (nI (0)), .int (nI (0))]))] U.heap ∧ va_K D classes [] U ∧ va_D A [(q0, .inr (2, [.int (nI (0)), .null, .int (nI (0)), .int (nI (0)), .int (nI (0)), .int (nI (0)), .int (nI (0)), .int (nI (0))]))])) (va_Qv (fun _ : Unit => True) (fun u t => va_P D classes [(q0, .inr (2, cFs hbb n 0))] t.heap ∧ va_K D classes [] t ∧ va_D A [(q0, .inr (2, cFs hbb n 0))]) A) 0 0 A := by
  refine g_ofW (cc := b_C_init) (maxL := 4) (ret := none) (by decide) rfl (Nat.le_of_ble_eq_true rfl) ?_
  intro p e s m below meth c ls hx hb hml hr hlk hown hts hnm hB hl
  have hown : s.vm.findClass R_C = some m.cls := hown
  have hin : meth.name = "<init>" := hnm
  obtain ⟨rfl, hP, hK, hD⟩ := hB
  have hS : va_S A s.heap s.heap [] := va_S.rf
  have hl : lv_has ls 4 [(0, .ref (q0)), (1, .ref (hbb)), (2, .int (nI (n))), (3, .int (nI (0)))] := hl
  refine lv_aload_n hx hb d_C_init_0 rfl (lv_at hl 0 rfl) ?_
  refine W.objInit hx hb hown (hts _ (.tail _ m_59)) (hts _ (.tail _ m_41)) (hts _ (.tail _ m_42)) rfl (by rw [hml]; exact hl.1) rfl d_C_init_1 (Nat.le_of_ble_eq_true rfl) (Nat.le_of_ble_eq_true rfl) ?_
  refine W.eq (g2 := F0 m 4 ls []) rfl ?_
  refine lv_aload_n hx hb d_C_init_4 rfl (lv_at hl 0 rfl) ?_
  refine lv_iload_n hx hb d_C_init_5 rfl (lv_at hl 3 rfl) ?_
  refine va_putF (D := D) (ci := 2) (v := .int (nI (0))) (ty := .int) (C := R_C) (T := F_C) (N := 8) hx hb hts (fun w h => .tail _ (fi_C w h)) ft_C ft_C_ok fn_C hown hK hP hD hS 0 rfl rfl 0 (by decide) (hts _ (.tail _ m_60)) (fun _ h9 => h9) rfl hin rfl (by decide +kernel) rfl rfl (Nat.le_of_ble_eq_true rfl) d_C_init_6 (fun H locs hP hD hS => ?_)
  have hP : va_P D classes [(q0, .inr (2, [.int (nI (0)), .null, .int (nI (0)), .int (nI (0)), .int (nI (0)), .int (nI (0)), .int (nI (0)), .int (nI (0))]))] H := hP
  have hD : va_D A [(q0, .inr (2, [.int (nI (0)), .null, .int (nI (0)), .int (nI (0)), .int (nI (0)), .int (nI (0)), .int (nI (0)), .int (nI (0))]))] := hD
  refine lv_aload_n hx hb d_C_init_9 rfl (lv_at hl 0 rfl) ?_
  refine lv_aload_n hx hb d_C_init_10 rfl (lv_at hl 1 rfl) ?_
  refine va_putF (D := D) (ci := 2) (v := .ref (hbb)) (ty := .object "TwinTables$Bytes") (C := R_C) (T := F_C) (N := 8) hx hb hts (fun w h => .tail _ (fi_C w h)) ft_C ft_C_ok fn_C hown hK hP hD hS 0 rfl rfl 1 (by decide) (hts _ (.tail _ m_62)) (fun _ h9 => h9) rfl hin rfl (by decide +kernel) rfl rfl (Nat.le_of_ble_eq_true rfl) d_C_init_11 (fun H locs hP hD hS => ?_)
  have hP : va_P D classes [(q0, .inr (2, [.int (nI (0)), .ref (hbb), .int (nI (0)), .int (nI (0)), .int (nI (0)), .int (nI (0)), .int (nI (0)), .int (nI (0))]))] H := hP
  have hD : va_D A [(q0, .inr (2, [.int (nI (0)), .ref (hbb), .int (nI (0)), .int (nI (0)), .int (nI (0)), .int (nI (0)), .int (nI (0)), .int (nI (0))]))] := hD
  refine lv_aload_n hx hb d_C_init_14 rfl (lv_at hl 0 rfl) ?_
  refine lv_iload_n hx hb d_C_init_15 rfl (lv_at hl 3 rfl) ?_
  refine lv_if_ne (tgt := 23) hx hb d_C_init_16 (by decide) (fun c9 => absurd (by decide) c9) (fun _ => ?_)
  refine lv_iconst (v := nI 1) hx hb d_C_init_19 rfl ?_
  refine lv_goto (tgt := 26) hx hb d_C_init_20 (by decide) ?_
  refine va_putF (D := D) (ci := 2) (v := .int (nI (1))) (ty := .int) (C := R_C) (T := F_C) (N := 8) hx hb hts (fun w h => .tail _ (fi_C w h)) ft_C ft_C_ok fn_C hown hK hP hD hS 0 rfl rfl 2 (by decide) (hts _ (.tail _ m_63)) (fun _ h9 => h9) rfl hin rfl (by decide +kernel) rfl rfl (Nat.le_of_ble_eq_true rfl) d_C_init_26 (fun H locs hP hD hS => ?_)
  have hP : va_P D classes [(q0, .inr (2, [.int (nI (0)), .ref (hbb), .int (nI (1)), .int (nI (0)), .int (nI (0)), .int (nI (0)), .int (nI (0)), .int (nI (0))]))] H := hP
  have hD : va_D A [(q0, .inr (2, [.int (nI (0)), .ref (hbb), .int (nI (1)), .int (nI (0)), .int (nI (0)), .int (nI (0)), .int (nI (0)), .int (nI (0))]))] := hD
  refine lv_aload_n hx hb d_C_init_29 rfl (lv_at hl 0 rfl) ?_
  refine lv_iload_n hx hb d_C_init_30 rfl (lv_at hl 3 rfl) ?_
  refine lv_if_ne (tgt := 40) hx hb d_C_init_31 (by decide) (fun c9 => absurd (by decide) c9) (fun _ => ?_)
  refine lv_iload_n hx hb d_C_init_34 rfl (lv_at hl 2 rfl) ?_
  refine lv_iconst (v := nI 1) hx hb d_C_init_35 rfl ?_
  refine lv_isubN hx hb d_C_init_36 (by omega) ?_
  refine lv_goto (tgt := 41) hx hb d_C_init_37 (by decide) ?_
  refine va_putF (D := D) (ci := 2) (v := .int (nI (n - 1))) (ty := .int) (C := R_C) (T := F_C) (N := 8) hx hb hts (fun w h => .tail _ (fi_C w h)) ft_C ft_C_ok fn_C hown hK hP hD hS 0 rfl rfl 3 (by decide) (hts _ (.tail _ m_64)) (fun _ h9 => h9) rfl hin rfl (by decide +kernel) rfl rfl (Nat.le_of_ble_eq_true rfl) d_C_init_41 (fun H locs hP hD hS => ?_)
  have hP : va_P D classes [(q0, .inr (2, [.int (nI (0)), .ref (hbb), .int (nI (1)), .int (nI (n - 1)), .int (nI (0)), .int (nI (0)), .int (nI (0)), .int (nI (0))]))] H := hP
  have hD : va_D A [(q0, .inr (2, [.int (nI (0)), .ref (hbb), .int (nI (1)), .int (nI (n - 1)), .int (nI (0)), .int (nI (0)), .int (nI (0)), .int (nI (0))]))] := hD
  refine lv_aload_n hx hb d_C_init_44 rfl (lv_at hl 0 rfl) ?_
  refine lv_iload_n hx hb d_C_init_45 rfl (lv_at hl 3 rfl) ?_
  refine lv_if_ne (tgt := 53) hx hb d_C_init_46 (by decide) (fun c9 => absurd (by decide) c9) (fun _ => ?_)
  refine lv_iconst (v := nI 2) hx hb d_C_init_49 rfl ?_
  refine lv_goto (tgt := 56) hx hb d_C_init_50 (by decide) ?_
  refine va_putF (D := D) (ci := 2) (v := .int (nI (2))) (ty := .int) (C := R_C) (T := F_C) (N := 8) hx hb hts (fun w h => .tail _ (fi_C w h)) ft_C ft_C_ok fn_C hown hK hP hD hS 0 rfl rfl 4 (by decide) (hts _ (.tail _ m_65)) (fun _ h9 => h9) rfl hin rfl (by decide +kernel) rfl rfl (Nat.le_of_ble_eq_true rfl) d_C_init_56 (fun H locs hP hD hS => ?_)
  have hP : va_P D classes [(q0, .inr (2, [.int (nI (0)), .ref (hbb), .int (nI (1)), .int (nI (n - 1)), .int (nI (2)), .int (nI (0)), .int (nI (0)), .int (nI (0))]))] H := hP
  have hD : va_D A [(q0, .inr (2, [.int (nI (0)), .ref (hbb), .int (nI (1)), .int (nI (n - 1)), .int (nI (2)), .int (nI (0)), .int (nI (0)), .int (nI (0))]))] := hD
  refine lv_aload_n hx hb d_C_init_59 rfl (lv_at hl 0 rfl) ?_
  refine lv_iload_n hx hb d_C_init_60 rfl (lv_at hl 2 rfl) ?_
  refine lv_iconst (v := nI 4) hx hb d_C_init_61 rfl ?_
  refine lv_isubN hx hb d_C_init_62 (by omega) ?_
  refine va_putF (D := D) (ci := 2) (v := .int (nI (n - 4))) (ty := .int) (C := R_C) (T := F_C) (N := 8) hx hb hts (fun w h => .tail _ (fi_C w h)) ft_C ft_C_ok fn_C hown hK hP hD hS 0 rfl rfl 5 (by decide) (hts _ (.tail _ m_66)) (fun _ h9 => h9) rfl hin rfl (by decide +kernel) rfl rfl (Nat.le_of_ble_eq_true rfl) d_C_init_63 (fun H locs hP hD hS => ?_)
  have hP : va_P D classes [(q0, .inr (2, [.int (nI (0)), .ref (hbb), .int (nI (1)), .int (nI (n - 1)), .int (nI (2)), .int (nI (n - 4)), .int (nI (0)), .int (nI (0))]))] H := hP
  have hD : va_D A [(q0, .inr (2, [.int (nI (0)), .ref (hbb), .int (nI (1)), .int (nI (n - 1)), .int (nI (2)), .int (nI (n - 4)), .int (nI (0)), .int (nI (0))]))] := hD
  refine lv_aload_n hx hb d_C_init_66 rfl (lv_at hl 0 rfl) ?_
  refine lv_aload_n hx hb d_C_init_67 rfl (lv_at hl 0 rfl) ?_
  refine va_get (D := D) (ci := 2) (v := .int (nI (1))) (C := R_C) (T := F_C) (N := 8) hx hb hts (fun w h => .tail _ (fi_C w h)) hown hK hP 0 rfl rfl 2 (by decide) (hts _ (.tail _ m_63)) (fun _ h9 => h9) rfl d_C_init_68 ?_
  refine lv_sipush (v := nI 512) hx hb d_C_init_71 rfl ?_
  refine lv_imulN hx hb d_C_init_74 ?_
  refine va_putF (D := D) (ci := 2) (v := .int (nI (1 * 512))) (ty := .int) (C := R_C) (T := F_C) (N := 8) hx hb hts (fun w h => .tail _ (fi_C w h)) ft_C ft_C_ok fn_C hown hK hP hD hS 0 rfl rfl 6 (by decide) (hts _ (.tail _ m_67)) (fun _ h9 => h9) rfl hin rfl (by decide +kernel) rfl rfl (Nat.le_of_ble_eq_true rfl) d_C_init_75 (fun H locs hP hD hS => ?_)
  have hP : va_P D classes [(q0, .inr (2, [.int (nI (0)), .ref (hbb), .int (nI (1)), .int (nI (n - 1)), .int (nI (2)), .int (nI (n - 4)), .int (nI (1 * 512)), .int (nI (0))]))] H := hP
  have hD : va_D A [(q0, .inr (2, [.int (nI (0)), .ref (hbb), .int (nI (1)), .int (nI (n - 1)), .int (nI (2)), .int (nI (n - 4)), .int (nI (1 * 512)), .int (nI (0))]))] := hD
  refine lv_aload_n hx hb d_C_init_78 rfl (lv_at hl 0 rfl) ?_
  refine lv_aload_n hx hb d_C_init_79 rfl (lv_at hl 0 rfl) ?_
  refine va_get (D := D) (ci := 2) (v := .int (nI (2))) (C := R_C) (T := F_C) (N := 8) hx hb hts (fun w h => .tail _ (fi_C w h)) hown hK hP 0 rfl rfl 4 (by decide) (hts _ (.tail _ m_65)) (fun _ h9 => h9) rfl d_C_init_80 ?_
  refine lv_sipush (v := nI 512) hx hb d_C_init_83 rfl ?_
  refine lv_imulN hx hb d_C_init_86 ?_
  refine va_putF (D := D) (ci := 2) (v := .int (nI (2 * 512))) (ty := .int) (C := R_C) (T := F_C) (N := 8) hx hb hts (fun w h => .tail _ (fi_C w h)) ft_C ft_C_ok fn_C hown hK hP hD hS 0 rfl rfl 7 (by decide) (hts _ (.tail _ m_68)) (fun _ h9 => h9) rfl hin rfl (by decide +kernel) rfl rfl (Nat.le_of_ble_eq_true rfl) d_C_init_87 (fun H locs hP hD hS => ?_)
  have hP : va_P D classes [(q0, .inr (2, [.int (nI (0)), .ref (hbb), .int (nI (1)), .int (nI (n - 1)), .int (nI (2)), .int (nI (n - 4)), .int (nI (1 * 512)), .int (nI (2 * 512))]))] H := hP
  have hD : va_D A [(q0, .inr (2, [.int (nI (0)), .ref (hbb), .int (nI (1)), .int (nI (n - 1)), .int (nI (2)), .int (nI (n - 4)), .int (nI (1 * 512)), .int (nI (2 * 512))]))] := hD
  refine W.widen (k := 0) (n := 0) (Nat.le_of_ble_eq_true rfl) (Nat.le_of_ble_eq_true rfl) ?_
  exact W.vret hx hb hr (fun t ht hW => ⟨⟨(), rfl, trivial, by rw [ht]; exact hP.sub [0] rfl, va_K.moved hW.alike (hK.sub [] rfl), hD.sub [0] (by decide) rfl⟩, hS.F ht⟩) hS.2.2 d_C_init_90 hlk
set_option maxHeartbeats 4000000 in
set_option maxRecDepth 100000 in
theorem c_C_init1 (l : Launch) (D : va_G) (A : Nat → Prop) (q0 sz : Nat) (hA : ∀ z, sz ≤ z → A z) (hbb n : Nat) (hn : 12 ≤ n) : Met l y_C_init w_C_init rm_C_init (va_Pc [.ref (q0), .ref (hbb), .int (nI (n)), .int (nI (1))] (fun U => U.heap.size = sz ∧ va_P D classes [(q0, .inr (2, [.int (nI (0)), .null, .int (nI (0)), .int (nI (0)), .int (nI (0)), .int (nI (0)), .int (nI (0)), .int (nI (0))]))] U.heap ∧ va_K D classes [] U ∧ va_D A [(q0, .inr (2, [.int (nI (0)), .null, .int (nI (0)), .int (nI (0)), .int (nI (0)), .int (nI (0)), .int (nI (0)), .int (nI (0))]))])) (va_Qv (fun _ : Unit => True) (fun u t => va_P D classes [(q0, .inr (2, cFs hbb n 1))] t.heap ∧ va_K D classes [] t ∧ va_D A [(q0, .inr (2, cFs hbb n 1))]) A) 0 0 A := by
  refine g_ofW (cc := b_C_init) (maxL := 4) (ret := none) (by decide) rfl (Nat.le_of_ble_eq_true rfl) ?_
  intro p e s m below meth c ls hx hb hml hr hlk hown hts hnm hB hl
  have hown : s.vm.findClass R_C = some m.cls := hown
  have hin : meth.name = "<init>" := hnm
  obtain ⟨rfl, hP, hK, hD⟩ := hB
  have hS : va_S A s.heap s.heap [] := va_S.rf
  have hl : lv_has ls 4 [(0, .ref (q0)), (1, .ref (hbb)), (2, .int (nI (n))), (3, .int (nI (1)))] := hl
  refine lv_aload_n hx hb d_C_init_0 rfl (lv_at hl 0 rfl) ?_
  refine W.objInit hx hb hown (hts _ (.tail _ m_59)) (hts _ (.tail _ m_41)) (hts _ (.tail _ m_42)) rfl (by rw [hml]; exact hl.1) rfl d_C_init_1 (Nat.le_of_ble_eq_true rfl) (Nat.le_of_ble_eq_true rfl) ?_
  refine W.eq (g2 := F0 m 4 ls []) rfl ?_
  refine lv_aload_n hx hb d_C_init_4 rfl (lv_at hl 0 rfl) ?_
  refine lv_iload_n hx hb d_C_init_5 rfl (lv_at hl 3 rfl) ?_
  refine va_putF (D := D) (ci := 2) (v := .int (nI (1))) (ty := .int) (C := R_C) (T := F_C) (N := 8) hx hb hts (fun w h => .tail _ (fi_C w h)) ft_C ft_C_ok fn_C hown hK hP hD hS 0 rfl rfl 0 (by decide) (hts _ (.tail _ m_60)) (fun _ h9 => h9) rfl hin rfl (by decide +kernel) rfl rfl (Nat.le_of_ble_eq_true rfl) d_C_init_6 (fun H locs hP hD hS => ?_)
  have hP : va_P D classes [(q0, .inr (2, [.int (nI (1)), .null, .int (nI (0)), .int (nI (0)), .int (nI (0)), .int (nI (0)), .int (nI (0)), .int (nI (0))]))] H := hP
  have hD : va_D A [(q0, .inr (2, [.int (nI (1)), .null, .int (nI (0)), .int (nI (0)), .int (nI (0)), .int (nI (0)), .int (nI (0)), .int (nI (0))]))] := hD
  refine lv_aload_n hx hb d_C_init_9 rfl (lv_at hl 0 rfl) ?_
  refine lv_aload_n hx hb d_C_init_10 rfl (lv_at hl 1 rfl) ?_
  refine va_putF (D := D) (ci := 2) (v := .ref (hbb)) (ty := .object "TwinTables$Bytes") (C := R_C) (T := F_C) (N := 8) hx hb hts (fun w h => .tail _ (fi_C w h)) ft_C ft_C_ok fn_C hown hK hP hD hS 0 rfl rfl 1 (by decide) (hts _ (.tail _ m_62)) (fun _ h9 => h9) rfl hin rfl (by decide +kernel) rfl rfl (Nat.le_of_ble_eq_true rfl) d_C_init_11 (fun H locs hP hD hS => ?_)
  have hP : va_P D classes [(q0, .inr (2, [.int (nI (1)), .ref (hbb), .int (nI (0)), .int (nI (0)), .int (nI (0)), .int (nI (0)), .int (nI (0)), .int (nI (0))]))] H := hP
  have hD : va_D A [(q0, .inr (2, [.int (nI (1)), .ref (hbb), .int (nI (0)), .int (nI (0)), .int (nI (0)), .int (nI (0)), .int (nI (0)), .int (nI (0))]))] := hD
  refine lv_aload_n hx hb d_C_init_14 rfl (lv_at hl 0 rfl) ?_
  refine lv_iload_n hx hb d_C_init_15 rfl (lv_at hl 3 rfl) ?_
  refine lv_if_ne (tgt := 23) hx hb d_C_init_16 (by decide) (fun _ => ?_) (fun c9 => absurd c9 (by decide))
  refine lv_iload_n hx hb d_C_init_23 rfl (lv_at hl 2 rfl) ?_
  refine lv_iconst (v := nI 1) hx hb d_C_init_24 rfl ?_
  refine lv_isubN hx hb d_C_init_25 (by omega) ?_
  refine va_putF (D := D) (ci := 2) (v := .int (nI (n - 1))) (ty := .int) (C := R_C) (T := F_C) (N := 8) hx hb hts (fun w h => .tail _ (fi_C w h)) ft_C ft_C_ok fn_C hown hK hP hD hS 0 rfl rfl 2 (by decide) (hts _ (.tail _ m_63)) (fun _ h9 => h9) rfl hin rfl (by decide +kernel) rfl rfl (Nat.le_of_ble_eq_true rfl) d_C_init_26 (fun H locs hP hD hS => ?_)
  have hP : va_P D classes [(q0, .inr (2, [.int (nI (1)), .ref (hbb), .int (nI (n - 1)), .int (nI (0)), .int (nI (0)), .int (nI (0)), .int (nI (0)), .int (nI (0))]))] H := hP
  have hD : va_D A [(q0, .inr (2, [.int (nI (1)), .ref (hbb), .int (nI (n - 1)), .int (nI (0)), .int (nI (0)), .int (nI (0)), .int (nI (0)), .int (nI (0))]))] := hD
  refine lv_aload_n hx hb d_C_init_29 rfl (lv_at hl 0 rfl) ?_
  refine lv_iload_n hx hb d_C_init_30 rfl (lv_at hl 3 rfl) ?_
  refine lv_if_ne (tgt := 40) hx hb d_C_init_31 (by decide) (fun _ => ?_) (fun c9 => absurd c9 (by decide))
  refine lv_iconst (v := nI 1) hx hb d_C_init_40 rfl ?_
  refine va_putF (D := D) (ci := 2) (v := .int (nI (1))) (ty := .int) (C := R_C) (T := F_C) (N := 8) hx hb hts (fun w h => .tail _ (fi_C w h)) ft_C ft_C_ok fn_C hown hK hP hD hS 0 rfl rfl 3 (by decide) (hts _ (.tail _ m_64)) (fun _ h9 => h9) rfl hin rfl (by decide +kernel) rfl rfl (Nat.le_of_ble_eq_true rfl) d_C_init_41 (fun H locs hP hD hS => ?_)
  have hP : va_P D classes [(q0, .inr (2, [.int (nI (1)), .ref (hbb), .int (nI (n - 1)), .int (nI (1)), .int (nI (0)), .int (nI (0)), .int (nI (0)), .int (nI (0))]))] H := hP
  have hD : va_D A [(q0, .inr (2, [.int (nI (1)), .ref (hbb), .int (nI (n - 1)), .int (nI (1)), .int (nI (0)), .int (nI (0)), .int (nI (0)), .int (nI (0))]))] := hD
  refine lv_aload_n hx hb d_C_init_44 rfl (lv_at hl 0 rfl) ?_
  refine lv_iload_n hx hb d_C_init_45 rfl (lv_at hl 3 rfl) ?_
  refine lv_if_ne (tgt := 53) hx hb d_C_init_46 (by decide) (fun _ => ?_) (fun c9 => absurd c9 (by decide))
  refine lv_iload_n hx hb d_C_init_53 rfl (lv_at hl 2 rfl) ?_
  refine lv_iconst (v := nI 3) hx hb d_C_init_54 rfl ?_
  refine lv_isubN hx hb d_C_init_55 (by omega) ?_
  refine va_putF (D := D) (ci := 2) (v := .int (nI (n - 3))) (ty := .int) (C := R_C) (T := F_C) (N := 8) hx hb hts (fun w h => .tail _ (fi_C w h)) ft_C ft_C_ok fn_C hown hK hP hD hS 0 rfl rfl 4 (by decide) (hts _ (.tail _ m_65)) (fun _ h9 => h9) rfl hin rfl (by decide +kernel) rfl rfl (Nat.le_of_ble_eq_true rfl) d_C_init_56 (fun H locs hP hD hS => ?_)
  have hP : va_P D classes [(q0, .inr (2, [.int (nI (1)), .ref (hbb), .int (nI (n - 1)), .int (nI (1)), .int (nI (n - 3)), .int (nI (0)), .int (nI (0)), .int (nI (0))]))] H := hP
  have hD : va_D A [(q0, .inr (2, [.int (nI (1)), .ref (hbb), .int (nI (n - 1)), .int (nI (1)), .int (nI (n - 3)), .int (nI (0)), .int (nI (0)), .int (nI (0))]))] := hD
  refine lv_aload_n hx hb d_C_init_59 rfl (lv_at hl 0 rfl) ?_
  refine lv_iload_n hx hb d_C_init_60 rfl (lv_at hl 2 rfl) ?_
  refine lv_iconst (v := nI 4) hx hb d_C_init_61 rfl ?_
  refine lv_isubN hx hb d_C_init_62 (by omega) ?_
  refine va_putF (D := D) (ci := 2) (v := .int (nI (n - 4))) (ty := .int) (C := R_C) (T := F_C) (N := 8) hx hb hts (fun w h => .tail _ (fi_C w h)) ft_C ft_C_ok fn_C hown hK hP hD hS 0 rfl rfl 5 (by decide) (hts _ (.tail _ m_66)) (fun _ h9 => h9) rfl hin rfl (by decide +kernel) rfl rfl (Nat.le_of_ble_eq_true rfl) d_C_init_63 (fun H locs hP hD hS => ?_)
  have hP : va_P D classes [(q0, .inr (2, [.int (nI (1)), .ref (hbb), .int (nI (n - 1)), .int (nI (1)), .int (nI (n - 3)), .int (nI (n - 4)), .int (nI (0)), .int (nI (0))]))] H := hP
  have hD : va_D A [(q0, .inr (2, [.int (nI (1)), .ref (hbb), .int (nI (n - 1)), .int (nI (1)), .int (nI (n - 3)), .int (nI (n - 4)), .int (nI (0)), .int (nI (0))]))] := hD
  refine lv_aload_n hx hb d_C_init_66 rfl (lv_at hl 0 rfl) ?_
  refine lv_aload_n hx hb d_C_init_67 rfl (lv_at hl 0 rfl) ?_
  refine va_get (D := D) (ci := 2) (v := .int (nI (n - 1))) (C := R_C) (T := F_C) (N := 8) hx hb hts (fun w h => .tail _ (fi_C w h)) hown hK hP 0 rfl rfl 2 (by decide) (hts _ (.tail _ m_63)) (fun _ h9 => h9) rfl d_C_init_68 ?_
  refine lv_sipush (v := nI 512) hx hb d_C_init_71 rfl ?_
  refine lv_imulN hx hb d_C_init_74 ?_
  refine va_putF (D := D) (ci := 2) (v := .int (nI ((n - 1) * 512))) (ty := .int) (C := R_C) (T := F_C) (N := 8) hx hb hts (fun w h => .tail _ (fi_C w h)) ft_C ft_C_ok fn_C hown hK hP hD hS 0 rfl rfl 6 (by decide) (hts _ (.tail _ m_67)) (fun _ h9 => h9) rfl hin rfl (by decide +kernel) rfl rfl (Nat.le_of_ble_eq_true rfl) d_C_init_75 (fun H locs hP hD hS => ?_)
  have hP : va_P D classes [(q0, .inr (2, [.int (nI (1)), .ref (hbb), .int (nI (n - 1)), .int (nI (1)), .int (nI (n - 3)), .int (nI (n - 4)), .int (nI ((n - 1) * 512)), .int (nI (0))]))] H := hP
  have hD : va_D A [(q0, .inr (2, [.int (nI (1)), .ref (hbb), .int (nI (n - 1)), .int (nI (1)), .int (nI (n - 3)), .int (nI (n - 4)), .int (nI ((n - 1) * 512)), .int (nI (0))]))] := hD
  refine lv_aload_n hx hb d_C_init_78 rfl (lv_at hl 0 rfl) ?_
  refine lv_aload_n hx hb d_C_init_79 rfl (lv_at hl 0 rfl) ?_
  refine va_get (D := D) (ci := 2) (v := .int (nI (n - 3))) (C := R_C) (T := F_C) (N := 8) hx hb hts (fun w h => .tail _ (fi_C w h)) hown hK hP 0 rfl rfl 4 (by decide) (hts _ (.tail _ m_65)) (fun _ h9 => h9) rfl d_C_init_80 ?_
  refine lv_sipush (v := nI 512) hx hb d_C_init_83 rfl ?_
  refine lv_imulN hx hb d_C_init_86 ?_
  refine va_putF (D := D) (ci := 2) (v := .int (nI ((n - 3) * 512))) (ty := .int) (C := R_C) (T := F_C) (N := 8) hx hb hts (fun w h => .tail _ (fi_C w h)) ft_C ft_C_ok fn_C hown hK hP hD hS 0 rfl rfl 7 (by decide) (hts _ (.tail _ m_68)) (fun _ h9 => h9) rfl hin rfl (by decide +kernel) rfl rfl (Nat.le_of_ble_eq_true rfl) d_C_init_87 (fun H locs hP hD hS => ?_)
  have hP : va_P D classes [(q0, .inr (2, [.int (nI (1)), .ref (hbb), .int (nI (n - 1)), .int (nI (1)), .int (nI (n - 3)), .int (nI (n - 4)), .int (nI ((n - 1) * 512)), .int (nI ((n - 3) * 512))]))] H := hP
  have hD : va_D A [(q0, .inr (2, [.int (nI (1)), .ref (hbb), .int (nI (n - 1)), .int (nI (1)), .int (nI (n - 3)), .int (nI (n - 4)), .int (nI ((n - 1) * 512)), .int (nI ((n - 3) * 512))]))] := hD
  refine W.widen (k := 0) (n := 0) (Nat.le_of_ble_eq_true rfl) (Nat.le_of_ble_eq_true rfl) ?_
  exact W.vret hx hb hr (fun t ht hW => ⟨⟨(), rfl, trivial, by rw [ht]; exact hP.sub [0] rfl, va_K.moved hW.alike (hK.sub [] rfl), hD.sub [0] (by decide) rfl⟩, hS.F ht⟩) hS.2.2 d_C_init_90 hlk
abbrev w_T_init : List Cond := .code y_T_init b_T_init 2 none :: ALL
abbrev rm_T_init : Room := { frames := 2, cells := 4, slots := 12305, locals := 50 }
theorem hd_T_init : y_T_init.cls = R_T ∧ y_T_init.cls ≠ "java/lang/invoke/MethodHandle" ∧ y_T_init.cls ≠ "java/lang/invoke/VarHandle" ∧ (parseMethodDescriptor y_T_init.desc).map (fun d => d.parameters.length) = some 1 := by decide +kernel
set_option maxHeartbeats 4000000 in
set_option maxRecDepth 100000 in
theorem c_T_init (l : Launch) (D : va_G) (A : Nat → Prop) (q0 sz : Nat) (hA : ∀ z, sz ≤ z → A z) (x : Int32) : Met l y_T_init w_T_init rm_T_init (va_Pc [.ref (q0), .int (x)] (fun U => U.heap.size = sz ∧ va_P D classes [(q0, .inr (0, [.int (nI (0)), .null, .null, .null]))] U.heap ∧ va_K D classes [] U ∧ va_D A [(q0, .inr (0, [.int (nI (0)), .null, .null, .null]))])) (va_Qv (fun _ : (Nat → Nat) × ClassId => True) (fun u t => u.1 0 = q0 ∧ va_P D classes (cW u.1 u.2 (nOf x) (fun _ => 0)) t.heap ∧ va_K D classes [(u.2, .byte)] t ∧ va_D A (cW u.1 u.2 (nOf x) (fun _ => 0))) A) 4 12305 A := by
  refine g_ofW (cc := b_T_init) (maxL := 2) (ret := none) (by decide) rfl (Nat.le_of_ble_eq_true rfl) ?_
  intro p e s m below meth c ls hx hb hml hr hlk hown hts hnm hB hl
  have hown : s.vm.findClass R_T = some m.cls := hown
  have hin : meth.name = "<init>" := hnm
  obtain ⟨rfl, hP, hK, hD⟩ := hB
  have hS : va_S A s.heap s.heap [] := va_S.rf
  have hl : lv_has ls 2 [(0, .ref (q0)), (1, .int (x))] := hl
  have hN1 := (nOf_le x).1
  have hN2 := (nOf_le x).2
  refine lv_aload_n hx hb d_T_init_0 rfl (lv_at hl 0 rfl) ?_
  refine W.objInit hx hb hown (hts _ (.tail _ m_40)) (hts _ (.tail _ m_41)) (hts _ (.tail _ m_42)) rfl (by rw [hml]; exact hl.1) rfl d_T_init_1 (Nat.le_of_ble_eq_true rfl) (Nat.le_of_ble_eq_true rfl) ?_
  refine W.eq (g2 := F0 m 4 ls []) rfl ?_
  refine lv_aload_n hx hb d_T_init_4 rfl (lv_at hl 0 rfl) ?_
  refine lv_iload_n hx hb d_T_init_5 rfl (lv_at hl 1 rfl) ?_
  refine lv_bipush (v := nI 12) hx hb d_T_init_6 rfl ?_
  refine lv_icmp_lt (tgt := 17) hx hb d_T_init_8 (by decide) (fun c_8 => ?_) (fun c_8 => ?_)
  · refine lv_bipush (v := nI 16) hx hb d_T_init_17 rfl ?_
    refine lv_goto (tgt := 23) hx hb d_T_init_19 (by decide) ?_
    refine lv_eqi (nOf_a c_8) ?_
    refine va_putF (D := D) (ci := 0) (v := .int (nI (nOf x))) (ty := .int) (C := R_T) (T := F_T) (N := 4) hx hb hts (fun w h => .tail _ (fi_T w h)) ft_T ft_T_ok fn_T hown hK hP hD hS 0 rfl rfl 0 (by decide) (hts _ (.tail _ m_86)) (fun _ h9 => h9) rfl hin rfl (by decide +kernel) rfl rfl (Nat.le_of_ble_eq_true rfl) d_T_init_23 (fun H locs hP hD hS => ?_)
    have hP : va_P D classes [(q0, .inr (0, [.int (nI (nOf x)), .null, .null, .null]))] H := hP
    have hD : va_D A [(q0, .inr (0, [.int (nI (nOf x)), .null, .null, .null]))] := hD
    refine lv_aload_n hx hb d_T_init_26 rfl (lv_at hl 0 rfl) ?_
    refine va_new (ci := 1) (fs := [.null]) (C := R_B) (T := F_B) (N := 1) hx hb hts (fun w h => .tail _ (fi_B w h)) ft_B ft_B_ok hown (hts _ (.tail _ m_43)) (hts _ (.tail _ m_44)) (hts _ (.tail _ m_31)) hK hP hD hS hA rfl (fun j hj => by rcases (show j = 0 by omega) with rfl <;> rfl) (Nat.le_of_ble_eq_true rfl) (Nat.le_of_ble_eq_true rfl) d_T_init_27 (fun w1 H hP hD hS => ?_)
    have hP : va_P D classes [(q0, .inr (0, [.int (nI (nOf x)), .null, .null, .null])), (w1, .inr (1, [.null]))] H := hP
    have hD : va_D A [(q0, .inr (0, [.int (nI (nOf x)), .null, .null, .null])), (w1, .inr (1, [.null]))] := hD
    refine W.widen (k := 1) (n := 1) (by decide) (by decide) ?_
    refine lv_dup hx hb d_T_init_30 rfl ?_
    refine lv_aload_n hx hb d_T_init_31 rfl (lv_at hl 0 rfl) ?_
    refine va_get (D := D) (ci := 0) (v := .int (nI (nOf x))) (C := R_T) (T := F_T) (N := 4) hx hb hts (fun w h => .tail _ (fi_T w h)) hown hK hP 0 rfl rfl 0 (by decide) (hts _ (.tail _ m_86)) (fun _ h9 => h9) rfl d_T_init_32 ?_
    refine lv_sipush (v := nI 512) hx hb d_T_init_35 rfl ?_
    refine lv_imulN hx hb d_T_init_38 ?_
    have hPc := hP.sub (ws' := [(w1, .inr (1, [.null]))]) [1] rfl
    have hDc := hD.sub (ws' := [(w1, .inr (1, [.null]))]) [1] (by decide) rfl
    have hKc := hK.sub (tys' := []) [] rfl
    have hFc := va_free (wc := [(w1, .inr (1, [.null]))]) hD hS hA [1] rfl
    refine va_callv (va_runI (As := [.int (nI ((nOf x) * 512))]) (rest := [.ref (w1), .ref (q0)]) ⟨hx, hb, hml, hown, hts⟩ (c_B_init l D (va_A [(w1, .inr (1, [.null]))] H.size) w1 H.size (fun _ h => Or.inr h) ((nOf x) * 512) (by omega)) (cwI 1 hts (gd_C m_47) rfl rfl rfl (hts _ (.tail _ m_31)) (hts _ (.tail _ m_45)) (hts _ (.tail _ m_46)) rfl hd_B_init.2 ⟨Nat.le_of_ble_eq_true rfl, Nat.le_of_ble_eq_true rfl⟩) ⟨fun a U g mk q => by obtain ⟨q0, q1, qP, qK, qD⟩ := q; exact ⟨q0, q1, qP, va_K.moved (u := U) (U := U.calling g mk a) (Vm.Alike.refl U.vm) qK, qD⟩, fun U hU hW => ⟨rfl, by rw [hU], by rw [hU]; exact hPc, va_K.moved hW.alike hKc, hDc.self⟩⟩ rfl rfl hl.1 rfl (lv_room (Nat.le_of_ble_eq_true rfl)) d_T_init_39 ⟨Nat.le_of_ble_eq_true rfl, Nat.le_of_ble_eq_true rfl⟩) hS (fun q _ h => hFc q h) hFc (fun u t H1 locs ht hvm hw hB hz1 hk1 hS => ?_)
    obtain ⟨hr1, ca⟩ := u
    dsimp only at hB
    obtain ⟨hP1, hK1, hD1⟩ := hB
    rw [ht] at hP1
    have hK1 := va_K.moved hvm.symm hK1
    obtain ⟨hP, hD⟩ := va_join (wr := [(q0, .inr (0, [.int (nI (nOf x)), .null, .null, .null]))]) (w1 := [(w1, .inr (1, [.ref (hr1)])), (hr1, .inl (ca, (nOf x) * 512, .inl (fun z => sx ((fun _ => 0) z))))]) hP hD [1] [0] rfl rfl (by decide) (by decide) hk1 hFc hP1 hD1
    have hK := (hK.sub (tys' := []) [] rfl).app hK1
    generalize H1 = H at hP hS ⊢
    have hP : va_P D classes [(q0, .inr (0, [.int (nI (nOf x)), .null, .null, .null])), (w1, .inr (1, [.ref (hr1)])), (hr1, .inl (ca, (nOf x) * 512, .inl (fun z => sx ((fun _ => 0) z))))] H := hP
    have hD : va_D A [(q0, .inr (0, [.int (nI (nOf x)), .null, .null, .null])), (w1, .inr (1, [.ref (hr1)])), (hr1, .inl (ca, (nOf x) * 512, .inl (fun z => sx ((fun _ => 0) z))))] := hD
    have hK : va_K D classes [(ca, .byte)] s := hK
    refine W.widen (k := 2) (n := 12289) (by decide) (by decide) ?_
    refine va_putF (D := D) (ci := 0) (v := .ref (w1)) (ty := .object "TwinTables$Bytes") (C := R_T) (T := F_T) (N := 4) hx hb hts (fun w h => .tail _ (fi_T w h)) ft_T ft_T_ok fn_T hown hK hP hD hS 0 rfl rfl 1 (by decide) (hts _ (.tail _ m_87)) (fun _ h9 => h9) rfl hin rfl (by decide +kernel) rfl rfl (Nat.le_of_ble_eq_true rfl) d_T_init_42 (fun H locs hP hD hS => ?_)
    have hP : va_P D classes [(q0, .inr (0, [.int (nI (nOf x)), .ref (w1), .null, .null])), (w1, .inr (1, [.ref (hr1)])), (hr1, .inl (ca, (nOf x) * 512, .inl (fun z => sx ((fun _ => 0) z))))] H := hP
    have hD : va_D A [(q0, .inr (0, [.int (nI (nOf x)), .ref (w1), .null, .null])), (w1, .inr (1, [.ref (hr1)])), (hr1, .inl (ca, (nOf x) * 512, .inl (fun z => sx ((fun _ => 0) z))))] := hD
    refine lv_aload_n hx hb d_T_init_45 rfl (lv_at hl 0 rfl) ?_
    refine va_new (ci := 2) (fs := [.int 0, .null, .int 0, .int 0, .int 0, .int 0, .int 0, .int 0]) (C := R_C) (T := F_C) (N := 8) hx hb hts (fun w h => .tail _ (fi_C w h)) ft_C ft_C_ok hown (hts _ (.tail _ m_54)) (hts _ (.tail _ m_55)) (hts _ (.tail _ m_32)) hK hP hD hS hA rfl (fun j hj => by rcases (show j = 0 ∨ j = 1 ∨ j = 2 ∨ j = 3 ∨ j = 4 ∨ j = 5 ∨ j = 6 ∨ j = 7 by omega) with rfl | rfl | rfl | rfl | rfl | rfl | rfl | rfl <;> rfl) (Nat.le_of_ble_eq_true rfl) (Nat.le_of_ble_eq_true rfl) d_T_init_46 (fun w2 H hP hD hS => ?_)
    have hP : va_P D classes [(q0, .inr (0, [.int (nI (nOf x)), .ref (w1), .null, .null])), (w1, .inr (1, [.ref (hr1)])), (hr1, .inl (ca, (nOf x) * 512, .inl (fun z => sx ((fun _ => 0) z)))), (w2, .inr (2, [.int (nI (0)), .null, .int (nI (0)), .int (nI (0)), .int (nI (0)), .int (nI (0)), .int (nI (0)), .int (nI (0))]))] H := hP
    have hD : va_D A [(q0, .inr (0, [.int (nI (nOf x)), .ref (w1), .null, .null])), (w1, .inr (1, [.ref (hr1)])), (hr1, .inl (ca, (nOf x) * 512, .inl (fun z => sx ((fun _ => 0) z)))), (w2, .inr (2, [.int (nI (0)), .null, .int (nI (0)), .int (nI (0)), .int (nI (0)), .int (nI (0)), .int (nI (0)), .int (nI (0))]))] := hD
    refine W.widen (k := 3) (n := 12297) (by decide) (by decide) ?_
    refine lv_dup hx hb d_T_init_49 rfl ?_
    refine lv_aload_n hx hb d_T_init_50 rfl (lv_at hl 0 rfl) ?_
    refine va_get (D := D) (ci := 0) (v := .ref (w1)) (C := R_T) (T := F_T) (N := 4) hx hb hts (fun w h => .tail _ (fi_T w h)) hown hK hP 0 rfl rfl 1 (by decide) (hts _ (.tail _ m_87)) (fun _ h9 => h9) rfl d_T_init_51 ?_
    refine lv_aload_n hx hb d_T_init_54 rfl (lv_at hl 0 rfl) ?_
    refine va_get (D := D) (ci := 0) (v := .int (nI (nOf x))) (C := R_T) (T := F_T) (N := 4) hx hb hts (fun w h => .tail _ (fi_T w h)) hown hK hP 0 rfl rfl 0 (by decide) (hts _ (.tail _ m_86)) (fun _ h9 => h9) rfl d_T_init_55 ?_
    refine lv_iconst (v := nI 0) hx hb d_T_init_58 rfl ?_
    have hPc := hP.sub (ws' := [(w2, .inr (2, [.int (nI (0)), .null, .int (nI (0)), .int (nI (0)), .int (nI (0)), .int (nI (0)), .int (nI (0)), .int (nI (0))]))]) [3] rfl
    have hDc := hD.sub (ws' := [(w2, .inr (2, [.int (nI (0)), .null, .int (nI (0)), .int (nI (0)), .int (nI (0)), .int (nI (0)), .int (nI (0)), .int (nI (0))]))]) [3] (by decide) rfl
    have hKc := hK.sub (tys' := []) [] rfl
    have hFc := va_free (wc := [(w2, .inr (2, [.int (nI (0)), .null, .int (nI (0)), .int (nI (0)), .int (nI (0)), .int (nI (0)), .int (nI (0)), .int (nI (0))]))]) hD hS hA [3] rfl
    refine va_callv (va_runI (As := [.ref (w1), .int (nI (nOf x)), .int (nI (0))]) (rest := [.ref (w2), .ref (q0)]) ⟨hx, hb, hml, hown, hts⟩ (c_C_init l D (va_A [(w2, .inr (2, [.int (nI (0)), .null, .int (nI (0)), .int (nI (0)), .int (nI (0)), .int (nI (0)), .int (nI (0)), .int (nI (0))]))] H.size) w2 H.size (fun _ h => Or.inr h) (w1) (nOf x) hN1) (cwI 3 hts (gd_C m_58) rfl rfl rfl (hts _ (.tail _ m_32)) (hts _ (.tail _ m_56)) (hts _ (.tail _ m_57)) rfl hd_C_init.2 ⟨Nat.le_of_ble_eq_true rfl, Nat.le_of_ble_eq_true rfl⟩) ⟨fun a U g mk q => by obtain ⟨q0, q1, qP, qK, qD⟩ := q; exact ⟨q0, q1, qP, va_K.moved (u := U) (U := U.calling g mk a) (Vm.Alike.refl U.vm) qK, qD⟩, fun U hU hW => ⟨rfl, by rw [hU], by rw [hU]; exact hPc, va_K.moved hW.alike hKc, hDc.self⟩⟩ rfl rfl hl.1 rfl (lv_room (Nat.le_of_ble_eq_true rfl)) d_T_init_59 ⟨Nat.le_of_ble_eq_true rfl, Nat.le_of_ble_eq_true rfl⟩) hS (fun q _ h => hFc q h) hFc (fun u t H1 locs ht hvm hw hB hz1 hk1 hS => ?_)
    obtain ⟨hP1, hK1, hD1⟩ := hB
    rw [ht] at hP1
    have hK1 := va_K.moved hvm.symm hK1
    obtain ⟨hP, hD⟩ := va_join (wr := [(q0, .inr (0, [.int (nI (nOf x)), .ref (w1), .null, .null])), (w1, .inr (1, [.ref (hr1)])), (hr1, .inl (ca, (nOf x) * 512, .inl (fun z => sx ((fun _ => 0) z))))]) (w1 := [(w2, .inr (2, cFs w1 (nOf x) 0))]) hP hD [3] [0, 1, 2] rfl rfl (by decide) (by decide) hk1 hFc hP1 hD1
    have hK := (hK.sub (tys' := [(ca, .byte)]) [0] rfl).app hK1
    generalize H1 = H at hP hS ⊢
    have hP : va_P D classes [(q0, .inr (0, [.int (nI (nOf x)), .ref (w1), .null, .null])), (w1, .inr (1, [.ref (hr1)])), (hr1, .inl (ca, (nOf x) * 512, .inl (fun z => sx ((fun _ => 0) z)))), (w2, .inr (2, cFs w1 (nOf x) 0))] H := hP
    have hD : va_D A [(q0, .inr (0, [.int (nI (nOf x)), .ref (w1), .null, .null])), (w1, .inr (1, [.ref (hr1)])), (hr1, .inl (ca, (nOf x) * 512, .inl (fun z => sx ((fun _ => 0) z)))), (w2, .inr (2, cFs w1 (nOf x) 0))] := hD
    have hK : va_K D classes [(ca, .byte)] s := hK
    refine W.widen (k := 3) (n := 12297) (by decide) (by decide) ?_
    refine va_putF (D := D) (ci := 0) (v := .ref (w2)) (ty := .object "TwinTables$Copy") (C := R_T) (T := F_T) (N := 4) hx hb hts (fun w h => .tail _ (fi_T w h)) ft_T ft_T_ok fn_T hown hK hP hD hS 0 rfl rfl 2 (by decide) (hts _ (.tail _ m_88)) (fun _ h9 => h9) rfl hin rfl (by decide +kernel) rfl rfl (Nat.le_of_ble_eq_true rfl) d_T_init_62 (fun H locs hP hD hS => ?_)
    have hP : va_P D classes [(q0, .inr (0, [.int (nI (nOf x)), .ref (w1), .ref (w2), .null])), (w1, .inr (1, [.ref (hr1)])), (hr1, .inl (ca, (nOf x) * 512, .inl (fun z => sx ((fun _ => 0) z)))), (w2, .inr (2, cFs w1 (nOf x) 0))] H := hP
    have hD : va_D A [(q0, .inr (0, [.int (nI (nOf x)), .ref (w1), .ref (w2), .null])), (w1, .inr (1, [.ref (hr1)])), (hr1, .inl (ca, (nOf x) * 512, .inl (fun z => sx ((fun _ => 0) z)))), (w2, .inr (2, cFs w1 (nOf x) 0))] := hD
    refine lv_aload_n hx hb d_T_init_65 rfl (lv_at hl 0 rfl) ?_
    refine va_new (ci := 2) (fs := [.int 0, .null, .int 0, .int 0, .int 0, .int 0, .int 0, .int 0]) (C := R_C) (T := F_C) (N := 8) hx hb hts (fun w h => .tail _ (fi_C w h)) ft_C ft_C_ok hown (hts _ (.tail _ m_54)) (hts _ (.tail _ m_55)) (hts _ (.tail _ m_32)) hK hP hD hS hA rfl (fun j hj => by rcases (show j = 0 ∨ j = 1 ∨ j = 2 ∨ j = 3 ∨ j = 4 ∨ j = 5 ∨ j = 6 ∨ j = 7 by omega) with rfl | rfl | rfl | rfl | rfl | rfl | rfl | rfl <;> rfl) (Nat.le_of_ble_eq_true rfl) (Nat.le_of_ble_eq_true rfl) d_T_init_66 (fun w3 H hP hD hS => ?_)
    have hP : va_P D classes [(q0, .inr (0, [.int (nI (nOf x)), .ref (w1), .ref (w2), .null])), (w1, .inr (1, [.ref (hr1)])), (hr1, .inl (ca, (nOf x) * 512, .inl (fun z => sx ((fun _ => 0) z)))), (w2, .inr (2, cFs w1 (nOf x) 0)), (w3, .inr (2, [.int (nI (0)), .null, .int (nI (0)), .int (nI (0)), .int (nI (0)), .int (nI (0)), .int (nI (0)), .int (nI (0))]))] H := hP
    have hD : va_D A [(q0, .inr (0, [.int (nI (nOf x)), .ref (w1), .ref (w2), .null])), (w1, .inr (1, [.ref (hr1)])), (hr1, .inl (ca, (nOf x) * 512, .inl (fun z => sx ((fun _ => 0) z)))), (w2, .inr (2, cFs w1 (nOf x) 0)), (w3, .inr (2, [.int (nI (0)), .null, .int (nI (0)), .int (nI (0)), .int (nI (0)), .int (nI (0)), .int (nI (0)), .int (nI (0))]))] := hD
    refine W.widen (k := 4) (n := 12305) (by decide) (by decide) ?_
    refine lv_dup hx hb d_T_init_69 rfl ?_
    refine lv_aload_n hx hb d_T_init_70 rfl (lv_at hl 0 rfl) ?_
    refine va_get (D := D) (ci := 0) (v := .ref (w1)) (C := R_T) (T := F_T) (N := 4) hx hb hts (fun w h => .tail _ (fi_T w h)) hown hK hP 0 rfl rfl 1 (by decide) (hts _ (.tail _ m_87)) (fun _ h9 => h9) rfl d_T_init_71 ?_
    refine lv_aload_n hx hb d_T_init_74 rfl (lv_at hl 0 rfl) ?_
    refine va_get (D := D) (ci := 0) (v := .int (nI (nOf x))) (C := R_T) (T := F_T) (N := 4) hx hb hts (fun w h => .tail _ (fi_T w h)) hown hK hP 0 rfl rfl 0 (by decide) (hts _ (.tail _ m_86)) (fun _ h9 => h9) rfl d_T_init_75 ?_
    refine lv_iconst (v := nI 1) hx hb d_T_init_78 rfl ?_
    have hPc := hP.sub (ws' := [(w3, .inr (2, [.int (nI (0)), .null, .int (nI (0)), .int (nI (0)), .int (nI (0)), .int (nI (0)), .int (nI (0)), .int (nI (0))]))]) [4] rfl
    have hDc := hD.sub (ws' := [(w3, .inr (2, [.int (nI (0)), .null, .int (nI (0)), .int (nI (0)), .int (nI (0)), .int (nI (0)), .int (nI (0)), .int (nI (0))]))]) [4] (by decide) rfl
    have hKc := hK.sub (tys' := []) [] rfl
    have hFc := va_free (wc := [(w3, .inr (2, [.int (nI (0)), .null, .int (nI (0)), .int (nI (0)), .int (nI (0)), .int (nI (0)), .int (nI (0)), .int (nI (0))]))]) hD hS hA [4] rfl
    refine va_callv (va_runI (As := [.ref (w1), .int (nI (nOf x)), .int (nI (1))]) (rest := [.ref (w3), .ref (q0)]) ⟨hx, hb, hml, hown, hts⟩ (c_C_init1 l D (va_A [(w3, .inr (2, [.int (nI (0)), .null, .int (nI (0)), .int (nI (0)), .int (nI (0)), .int (nI (0)), .int (nI (0)), .int (nI (0))]))] H.size) w3 H.size (fun _ h => Or.inr h) (w1) (nOf x) hN1) (cwI 3 hts (gd_C m_58) rfl rfl rfl (hts _ (.tail _ m_32)) (hts _ (.tail _ m_56)) (hts _ (.tail _ m_57)) rfl hd_C_init.2 ⟨Nat.le_of_ble_eq_true rfl, Nat.le_of_ble_eq_true rfl⟩) ⟨fun a U g mk q => by obtain ⟨q0, q1, qP, qK, qD⟩ := q; exact ⟨q0, q1, qP, va_K.moved (u := U) (U := U.calling g mk a) (Vm.Alike.refl U.vm) qK, qD⟩, fun U hU hW => ⟨rfl, by rw [hU], by rw [hU]; exact hPc, va_K.moved hW.alike hKc, hDc.self⟩⟩ rfl rfl hl.1 rfl (lv_room (Nat.le_of_ble_eq_true rfl)) d_T_init_79 ⟨Nat.le_of_ble_eq_true rfl, Nat.le_of_ble_eq_true rfl⟩) hS (fun q _ h => hFc q h) hFc (fun u t H1 locs ht hvm hw hB hz1 hk1 hS => ?_)
    obtain ⟨hP1, hK1, hD1⟩ := hB
    rw [ht] at hP1
    have hK1 := va_K.moved hvm.symm hK1
    obtain ⟨hP, hD⟩ := va_join (wr := [(q0, .inr (0, [.int (nI (nOf x)), .ref (w1), .ref (w2), .null])), (w1, .inr (1, [.ref (hr1)])), (hr1, .inl (ca, (nOf x) * 512, .inl (fun z => sx ((fun _ => 0) z)))), (w2, .inr (2, cFs w1 (nOf x) 0))]) (w1 := [(w3, .inr (2, cFs w1 (nOf x) 1))]) hP hD [4] [0, 1, 2, 3] rfl rfl (by decide) (by decide) hk1 hFc hP1 hD1
    have hK := (hK.sub (tys' := [(ca, .byte)]) [0] rfl).app hK1
    generalize H1 = H at hP hS ⊢
    have hP : va_P D classes [(q0, .inr (0, [.int (nI (nOf x)), .ref (w1), .ref (w2), .null])), (w1, .inr (1, [.ref (hr1)])), (hr1, .inl (ca, (nOf x) * 512, .inl (fun z => sx ((fun _ => 0) z)))), (w2, .inr (2, cFs w1 (nOf x) 0)), (w3, .inr (2, cFs w1 (nOf x) 1))] H := hP
    have hD : va_D A [(q0, .inr (0, [.int (nI (nOf x)), .ref (w1), .ref (w2), .null])), (w1, .inr (1, [.ref (hr1)])), (hr1, .inl (ca, (nOf x) * 512, .inl (fun z => sx ((fun _ => 0) z)))), (w2, .inr (2, cFs w1 (nOf x) 0)), (w3, .inr (2, cFs w1 (nOf x) 1))] := hD
    have hK : va_K D classes [(ca, .byte)] s := hK
    refine W.widen (k := 4) (n := 12305) (by decide) (by decide) ?_
    refine va_putF (D := D) (ci := 0) (v := .ref (w3)) (ty := .object "TwinTables$Copy") (C := R_T) (T := F_T) (N := 4) hx hb hts (fun w h => .tail _ (fi_T w h)) ft_T ft_T_ok fn_T hown hK hP hD hS 0 rfl rfl 3 (by decide) (hts _ (.tail _ m_89)) (fun _ h9 => h9) rfl hin rfl (by decide +kernel) rfl rfl (Nat.le_of_ble_eq_true rfl) d_T_init_82 (fun H locs hP hD hS => ?_)
    have hP : va_P D classes [(q0, .inr (0, [.int (nI (nOf x)), .ref (w1), .ref (w2), .ref (w3)])), (w1, .inr (1, [.ref (hr1)])), (hr1, .inl (ca, (nOf x) * 512, .inl (fun z => sx ((fun _ => 0) z)))), (w2, .inr (2, cFs w1 (nOf x) 0)), (w3, .inr (2, cFs w1 (nOf x) 1))] H := hP
    have hD : va_D A [(q0, .inr (0, [.int (nI (nOf x)), .ref (w1), .ref (w2), .ref (w3)])), (w1, .inr (1, [.ref (hr1)])), (hr1, .inl (ca, (nOf x) * 512, .inl (fun z => sx ((fun _ => 0) z)))), (w2, .inr (2, cFs w1 (nOf x) 0)), (w3, .inr (2, cFs w1 (nOf x) 1))] := hD
    refine W.widen (k := 4) (n := 12305) (Nat.le_of_ble_eq_true rfl) (Nat.le_of_ble_eq_true rfl) ?_
    exact W.vret hx hb hr (fun t ht hW => ⟨⟨((fun i => if i = 0 then q0 else if i = 1 then w1 else if i = 2 then w2 else if i = 3 then w3 else hr1), ca), rfl, trivial, rfl, by rw [ht]; exact hP.sub [0, 1, 3, 4, 2] rfl, va_K.moved hW.alike (hK.sub [0] rfl), hD.sub [0, 1, 3, 4, 2] (by decide) rfl⟩, hS.F ht⟩) hS.2.2 d_T_init_85 hlk
  · refine lv_iload_n hx hb d_T_init_11 rfl (lv_at hl 1 rfl) ?_
    refine lv_bipush (v := nI 24) hx hb d_T_init_12 rfl ?_
    refine lv_icmp_le (tgt := 22) hx hb d_T_init_14 (by decide) (fun c_14 => ?_) (fun c_14 => ?_)
    · refine lv_iload_n hx hb d_T_init_22 rfl (lv_at hl 1 rfl) ?_
      refine lv_eqi (nOf_c c_8 c_14) ?_
      refine va_putF (D := D) (ci := 0) (v := .int (nI (nOf x))) (ty := .int) (C := R_T) (T := F_T) (N := 4) hx hb hts (fun w h => .tail _ (fi_T w h)) ft_T ft_T_ok fn_T hown hK hP hD hS 0 rfl rfl 0 (by decide) (hts _ (.tail _ m_86)) (fun _ h9 => h9) rfl hin rfl (by decide +kernel) rfl rfl (Nat.le_of_ble_eq_true rfl) d_T_init_23 (fun H locs hP hD hS => ?_)
      have hP : va_P D classes [(q0, .inr (0, [.int (nI (nOf x)), .null, .null, .null]))] H := hP
      have hD : va_D A [(q0, .inr (0, [.int (nI (nOf x)), .null, .null, .null]))] := hD
      refine lv_aload_n hx hb d_T_init_26 rfl (lv_at hl 0 rfl) ?_
      refine va_new (ci := 1) (fs := [.null]) (C := R_B) (T := F_B) (N := 1) hx hb hts (fun w h => .tail _ (fi_B w h)) ft_B ft_B_ok hown (hts _ (.tail _ m_43)) (hts _ (.tail _ m_44)) (hts _ (.tail _ m_31)) hK hP hD hS hA rfl (fun j hj => by rcases (show j = 0 by omega) with rfl <;> rfl) (Nat.le_of_ble_eq_true rfl) (Nat.le_of_ble_eq_true rfl) d_T_init_27 (fun w4 H hP hD hS => ?_)
      have hP : va_P D classes [(q0, .inr (0, [.int (nI (nOf x)), .null, .null, .null])), (w4, .inr (1, [.null]))] H := hP
      have hD : va_D A [(q0, .inr (0, [.int (nI (nOf x)), .null, .null, .null])), (w4, .inr (1, [.null]))] := hD
      refine W.widen (k := 1) (n := 1) (by decide) (by decide) ?_
      refine lv_dup hx hb d_T_init_30 rfl ?_
      refine lv_aload_n hx hb d_T_init_31 rfl (lv_at hl 0 rfl) ?_
      refine va_get (D := D) (ci := 0) (v := .int (nI (nOf x))) (C := R_T) (T := F_T) (N := 4) hx hb hts (fun w h => .tail _ (fi_T w h)) hown hK hP 0 rfl rfl 0 (by decide) (hts _ (.tail _ m_86)) (fun _ h9 => h9) rfl d_T_init_32 ?_
      refine lv_sipush (v := nI 512) hx hb d_T_init_35 rfl ?_
      refine lv_imulN hx hb d_T_init_38 ?_
      have hPc := hP.sub (ws' := [(w4, .inr (1, [.null]))]) [1] rfl
      have hDc := hD.sub (ws' := [(w4, .inr (1, [.null]))]) [1] (by decide) rfl
      have hKc := hK.sub (tys' := []) [] rfl
      have hFc := va_free (wc := [(w4, .inr (1, [.null]))]) hD hS hA [1] rfl
      refine va_callv (va_runI (As := [.int (nI ((nOf x) * 512))]) (rest := [.ref (w4), .ref (q0)]) ⟨hx, hb, hml, hown, hts⟩ (c_B_init l D (va_A [(w4, .inr (1, [.null]))] H.size) w4 H.size (fun _ h => Or.inr h) ((nOf x) * 512) (by omega)) (cwI 1 hts (gd_C m_47) rfl rfl rfl (hts _ (.tail _ m_31)) (hts _ (.tail _ m_45)) (hts _ (.tail _ m_46)) rfl hd_B_init.2 ⟨Nat.le_of_ble_eq_true rfl, Nat.le_of_ble_eq_true rfl⟩) ⟨fun a U g mk q => by obtain ⟨q0, q1, qP, qK, qD⟩ := q; exact ⟨q0, q1, qP, va_K.moved (u := U) (U := U.calling g mk a) (Vm.Alike.refl U.vm) qK, qD⟩, fun U hU hW => ⟨rfl, by rw [hU], by rw [hU]; exact hPc, va_K.moved hW.alike hKc, hDc.self⟩⟩ rfl rfl hl.1 rfl (lv_room (Nat.le_of_ble_eq_true rfl)) d_T_init_39 ⟨Nat.le_of_ble_eq_true rfl, Nat.le_of_ble_eq_true rfl⟩) hS (fun q _ h => hFc q h) hFc (fun u t H1 locs ht hvm hw hB hz1 hk1 hS => ?_)
      obtain ⟨hr1, ca⟩ := u
      dsimp only at hB
      obtain ⟨hP1, hK1, hD1⟩ := hB
      rw [ht] at hP1
      have hK1 := va_K.moved hvm.symm hK1
      obtain ⟨hP, hD⟩ := va_join (wr := [(q0, .inr (0, [.int (nI (nOf x)), .null, .null, .null]))]) (w1 := [(w4, .inr (1, [.ref (hr1)])), (hr1, .inl (ca, (nOf x) * 512, .inl (fun z => sx ((fun _ => 0) z))))]) hP hD [1] [0] rfl rfl (by decide) (by decide) hk1 hFc hP1 hD1
      have hK := (hK.sub (tys' := []) [] rfl).app hK1
      generalize H1 = H at hP hS ⊢
      have hP : va_P D classes [(q0, .inr (0, [.int (nI (nOf x)), .null, .null, .null])), (w4, .inr (1, [.ref (hr1)])), (hr1, .inl (ca, (nOf x) * 512, .inl (fun z => sx ((fun _ => 0) z))))] H := hP
      have hD : va_D A [(q0, .inr (0, [.int (nI (nOf x)), .null, .null, .null])), (w4, .inr (1, [.ref (hr1)])), (hr1, .inl (ca, (nOf x) * 512, .inl (fun z => sx ((fun _ => 0) z))))] := hD
      have hK : va_K D classes [(ca, .byte)] s := hK
      refine W.widen (k := 2) (n := 12289) (by decide) (by decide) ?_
      refine va_putF (D := D) (ci := 0) (v := .ref (w4)) (ty := .object "TwinTables$Bytes") (C := R_T) (T := F_T) (N := 4) hx hb hts (fun w h => .tail _ (fi_T w h)) ft_T ft_T_ok fn_T hown hK hP hD hS 0 rfl rfl 1 (by decide) (hts _ (.tail _ m_87)) (fun _ h9 => h9) rfl hin rfl (by decide +kernel) rfl rfl (Nat.le_of_ble_eq_true rfl) d_T_init_42 (fun H locs hP hD hS => ?_)
      have hP : va_P D classes [(q0, .inr (0, [.int (nI (nOf x)), .ref (w4), .null, .null])), (w4, .inr (1, [.ref (hr1)])), (hr1, .inl (ca, (nOf x) * 512, .inl (fun z => sx ((fun _ => 0) z))))] H := hP
      have hD : va_D A [(q0, .inr (0, [.int (nI (nOf x)), .ref (w4), .null, .null])), (w4, .inr (1, [.ref (hr1)])), (hr1, .inl (ca, (nOf x) * 512, .inl (fun z => sx ((fun _ => 0) z))))] := hD
      refine lv_aload_n hx hb d_T_init_45 rfl (lv_at hl 0 rfl) ?_
      refine va_new (ci := 2) (fs := [.int 0, .null, .int 0, .int 0, .int 0, .int 0, .int 0, .int 0]) (C := R_C) (T := F_C) (N := 8) hx hb hts (fun w h => .tail _ (fi_C w h)) ft_C ft_C_ok hown (hts _ (.tail _ m_54)) (hts _ (.tail _ m_55)) (hts _ (.tail _ m_32)) hK hP hD hS hA rfl (fun j hj => by rcases (show j = 0 ∨ j = 1 ∨ j = 2 ∨ j = 3 ∨ j = 4 ∨ j = 5 ∨ j = 6 ∨ j = 7 by omega) with rfl | rfl | rfl | rfl | rfl | rfl | rfl | rfl <;> rfl) (Nat.le_of_ble_eq_true rfl) (Nat.le_of_ble_eq_true rfl) d_T_init_46 (fun w5 H hP hD hS => ?_)
      have hP : va_P D classes [(q0, .inr (0, [.int (nI (nOf x)), .ref (w4), .null, .null])), (w4, .inr (1, [.ref (hr1)])), (hr1, .inl (ca, (nOf x) * 512, .inl (fun z => sx ((fun _ => 0) z)))), (w5, .inr (2, [.int (nI (0)), .null, .int (nI (0)), .int (nI (0)), .int (nI (0)), .int (nI (0)), .int (nI (0)), .int (nI (0))]))] H := hP
      have hD : va_D A [(q0, .inr (0, [.int (nI (nOf x)), .ref (w4), .null, .null])), (w4, .inr (1, [.ref (hr1)])), (hr1, .inl (ca, (nOf x) * 512, .inl (fun z => sx ((fun _ => 0) z)))), (w5, .inr (2, [.int (nI (0)), .null, .int (nI (0)), .int (nI (0)), .int (nI (0)), .int (nI (0)), .int (nI (0)), .int (nI (0))]))] := hD
      refine W.widen (k := 3) (n := 12297) (by decide) (by decide) ?_
      refine lv_dup hx hb d_T_init_49 rfl ?_
      refine lv_aload_n hx hb d_T_init_50 rfl (lv_at hl 0 rfl) ?_
      refine va_get (D := D) (ci := 0) (v := .ref (w4)) (C := R_T) (T := F_T) (N := 4) hx hb hts (fun w h => .tail _ (fi_T w h)) hown hK hP 0 rfl rfl 1 (by decide) (hts _ (.tail _ m_87)) (fun _ h9 => h9) rfl d_T_init_51 ?_
      refine lv_aload_n hx hb d_T_init_54 rfl (lv_at hl 0 rfl) ?_
      refine va_get (D := D) (ci := 0) (v := .int (nI (nOf x))) (C := R_T) (T := F_T) (N := 4) hx hb hts (fun w h => .tail _ (fi_T w h)) hown hK hP 0 rfl rfl 0 (by decide) (hts _ (.tail _ m_86)) (fun _ h9 => h9) rfl d_T_init_55 ?_
      refine lv_iconst (v := nI 0) hx hb d_T_init_58 rfl ?_
      have hPc := hP.sub (ws' := [(w5, .inr (2, [.int (nI (0)), .null, .int (nI (0)), .int (nI (0)), .int (nI (0)), .int (nI (0)), .int (nI (0)), .int (nI (0))]))]) [3] rfl
      have hDc := hD.sub (ws' := [(w5, .inr (2, [.int (nI (0)), .null, .int (nI (0)), .int (nI (0)), .int (nI (0)), .int (nI (0)), .int (nI (0)), .int (nI (0))]))]) [3] (by decide) rfl
      have hKc := hK.sub (tys' := []) [] rfl
      have hFc := va_free (wc := [(w5, .inr (2, [.int (nI (0)), .null, .int (nI (0)), .int (nI (0)), .int (nI (0)), .int (nI (0)), .int (nI (0)), .int (nI (0))]))]) hD hS hA [3] rfl
      refine va_callv (va_runI (As := [.ref (w4), .int (nI (nOf x)), .int (nI (0))]) (rest := [.ref (w5), .ref (q0)]) ⟨hx, hb, hml, hown, hts⟩ (c_C_init l D (va_A [(w5, .inr (2, [.int (nI (0)), .null, .int (nI (0)), .int (nI (0)), .int (nI (0)), .int (nI (0)), .int (nI (0)), .int (nI (0))]))] H.size) w5 H.size (fun _ h => Or.inr h) (w4) (nOf x) hN1) (cwI 3 hts (gd_C m_58) rfl rfl rfl (hts _ (.tail _ m_32)) (hts _ (.tail _ m_56)) (hts _ (.tail _ m_57)) rfl hd_C_init.2 ⟨Nat.le_of_ble_eq_true rfl, Nat.le_of_ble_eq_true rfl⟩) ⟨fun a U g mk q => by obtain ⟨q0, q1, qP, qK, qD⟩ := q; exact ⟨q0, q1, qP, va_K.moved (u := U) (U := U.calling g mk a) (Vm.Alike.refl U.vm) qK, qD⟩, fun U hU hW => ⟨rfl, by rw [hU], by rw [hU]; exact hPc, va_K.moved hW.alike hKc, hDc.self⟩⟩ rfl rfl hl.1 rfl (lv_room (Nat.le_of_ble_eq_true rfl)) d_T_init_59 ⟨Nat.le_of_ble_eq_true rfl, Nat.le_of_ble_eq_true rfl⟩) hS (fun q _ h => hFc q h) hFc (fun u t H1 locs ht hvm hw hB hz1 hk1 hS => ?_)
      obtain ⟨hP1, hK1, hD1⟩ := hB
      rw [ht] at hP1
      have hK1 := va_K.moved hvm.symm hK1
      obtain ⟨hP, hD⟩ := va_join (wr := [(q0, .inr (0, [.int (nI (nOf x)), .ref (w4), .null, .null])), (w4, .inr (1, [.ref (hr1)])), (hr1, .inl (ca, (nOf x) * 512, .inl (fun z => sx ((fun _ => 0) z))))]) (w1 := [(w5, .inr (2, cFs w4 (nOf x) 0))]) hP hD [3] [0, 1, 2] rfl rfl (by decide) (by decide) hk1 hFc hP1 hD1
      have hK := (hK.sub (tys' := [(ca, .byte)]) [0] rfl).app hK1
      generalize H1 = H at hP hS ⊢
      have hP : va_P D classes [(q0, .inr (0, [.int (nI (nOf x)), .ref (w4), .null, .null])), (w4, .inr (1, [.ref (hr1)])), (hr1, .inl (ca, (nOf x) * 512, .inl (fun z => sx ((fun _ => 0) z)))), (w5, .inr (2, cFs w4 (nOf x) 0))] H := hP
      have hD : va_D A [(q0, .inr (0, [.int (nI (nOf x)), .ref (w4), .null, .null])), (w4, .inr (1, [.ref (hr1)])), (hr1, .inl (ca, (nOf x) * 512, .inl (fun z => sx ((fun _ => 0) z)))), (w5, .inr (2, cFs w4 (nOf x) 0))] := hD
      have hK : va_K D classes [(ca, .byte)] s := hK
      refine W.widen (k := 3) (n := 12297) (by decide) (by decide) ?_
      refine va_putF (D := D) (ci := 0) (v := .ref (w5)) (ty := .object "TwinTables$Copy") (C := R_T) (T := F_T) (N := 4) hx hb hts (fun w h => .tail _ (fi_T w h)) ft_T ft_T_ok fn_T hown hK hP hD hS 0 rfl rfl 2 (by decide) (hts _ (.tail _ m_88)) (fun _ h9 => h9) rfl hin rfl (by decide +kernel) rfl rfl (Nat.le_of_ble_eq_true rfl) d_T_init_62 (fun H locs hP hD hS => ?_)
      have hP : va_P D classes [(q0, .inr (0, [.int (nI (nOf x)), .ref (w4), .ref (w5), .null])), (w4, .inr (1, [.ref (hr1)])), (hr1, .inl (ca, (nOf x) * 512, .inl (fun z => sx ((fun _ => 0) z)))), (w5, .inr (2, cFs w4 (nOf x) 0))] H := hP
      have hD : va_D A [(q0, .inr (0, [.int (nI (nOf x)), .ref (w4), .ref (w5), .null])), (w4, .inr (1, [.ref (hr1)])), (hr1, .inl (ca, (nOf x) * 512, .inl (fun z => sx ((fun _ => 0) z)))), (w5, .inr (2, cFs w4 (nOf x) 0))] := hD
      refine lv_aload_n hx hb d_T_init_65 rfl (lv_at hl 0 rfl) ?_
      refine va_new (ci := 2) (fs := [.int 0, .null, .int 0, .int 0, .int 0, .int 0, .int 0, .int 0]) (C := R_C) (T := F_C) (N := 8) hx hb hts (fun w h => .tail _ (fi_C w h)) ft_C ft_C_ok hown (hts _ (.tail _ m_54)) (hts _ (.tail _ m_55)) (hts _ (.tail _ m_32)) hK hP hD hS hA rfl (fun j hj => by rcases (show j = 0 ∨ j = 1 ∨ j = 2 ∨ j = 3 ∨ j = 4 ∨ j = 5 ∨ j = 6 ∨ j = 7 by omega) with rfl | rfl | rfl | rfl | rfl | rfl | rfl | rfl <;> rfl) (Nat.le_of_ble_eq_true rfl) (Nat.le_of_ble_eq_true rfl) d_T_init_66 (fun w6 H hP hD hS => ?_)
      have hP : va_P D classes [(q0, .inr (0, [.int (nI (nOf x)), .ref (w4), .ref (w5), .null])), (w4, .inr (1, [.ref (hr1)])), (hr1, .inl (ca, (nOf x) * 512, .inl (fun z => sx ((fun _ => 0) z)))), (w5, .inr (2, cFs w4 (nOf x) 0)), (w6, .inr (2, [.int (nI (0)), .null, .int (nI (0)), .int (nI (0)), .int (nI (0)), .int (nI (0)), .int (nI (0)), .int (nI (0))]))] H := hP
      have hD : va_D A [(q0, .inr (0, [.int (nI (nOf x)), .ref (w4), .ref (w5), .null])), (w4, .inr (1, [.ref (hr1)])), (hr1, .inl (ca, (nOf x) * 512, .inl (fun z => sx ((fun _ => 0) z)))), (w5, .inr (2, cFs w4 (nOf x) 0)), (w6, .inr (2, [.int (nI (0)), .null, .int (nI (0)), .int (nI (0)), .int (nI (0)), .int (nI (0)), .int (nI (0)), .int (nI (0))]))] := hD
      refine W.widen (k := 4) (n := 12305) (by decide) (by decide) ?_
      refine lv_dup hx hb d_T_init_69 rfl ?_
      refine lv_aload_n hx hb d_T_init_70 rfl (lv_at hl 0 rfl) ?_
      refine va_get (D := D) (ci := 0) (v := .ref (w4)) (C := R_T) (T := F_T) (N := 4) hx hb hts (fun w h => .tail _ (fi_T w h)) hown hK hP 0 rfl rfl 1 (by decide) (hts _ (.tail _ m_87)) (fun _ h9 => h9) rfl d_T_init_71 ?_
      refine lv_aload_n hx hb d_T_init_74 rfl (lv_at hl 0 rfl) ?_
      refine va_get (D := D) (ci := 0) (v := .int (nI (nOf x))) (C := R_T) (T := F_T) (N := 4) hx hb hts (fun w h => .tail _ (fi_T w h)) hown hK hP 0 rfl rfl 0 (by decide) (hts _ (.tail _ m_86)) (fun _ h9 => h9) rfl d_T_init_75 ?_
      refine lv_iconst (v := nI 1) hx hb d_T_init_78 rfl ?_
      have hPc := hP.sub (ws' := [(w6, .inr (2, [.int (nI (0)), .null, .int (nI (0)), .int (nI (0)), .int (nI (0)), .int (nI (0)), .int (nI (0)), .int (nI (0))]))]) [4] rfl
      have hDc := hD.sub (ws' := [(w6, .inr (2, [.int (nI (0)), .null, .int (nI (0)), .int (nI (0)), .int (nI (0)), .int (nI (0)), .int (nI (0)), .int (nI (0))]))]) [4] (by decide) rfl
      have hKc := hK.sub (tys' := []) [] rfl
      have hFc := va_free (wc := [(w6, .inr (2, [.int (nI (0)), .null, .int (nI (0)), .int (nI (0)), .int (nI (0)), .int (nI (0)), .int (nI (0)), .int (nI (0))]))]) hD hS hA [4] rfl
      refine va_callv (va_runI (As := [.ref (w4), .int (nI (nOf x)), .int (nI (1))]) (rest := [.ref (w6), .ref (q0)]) ⟨hx, hb, hml, hown, hts⟩ (c_C_init1 l D (va_A [(w6, .inr (2, [.int (nI (0)), .null, .int (nI (0)), .int (nI (0)), .int (nI (0)), .int (nI (0)), .int (nI (0)), .int (nI (0))]))] H.size) w6 H.size (fun _ h => Or.inr h) (w4) (nOf x) hN1) (cwI 3 hts (gd_C m_58) rfl rfl rfl (hts _ (.tail _ m_32)) (hts _ (.tail _ m_56)) (hts _ (.tail _ m_57)) rfl hd_C_init.2 ⟨Nat.le_of_ble_eq_true rfl, Nat.le_of_ble_eq_true rfl⟩) ⟨fun a U g mk q => by obtain ⟨q0, q1, qP, qK, qD⟩ := q; exact ⟨q0, q1, qP, va_K.moved (u := U) (U := U.calling g mk a) (Vm.Alike.refl U.vm) qK, qD⟩, fun U hU hW => ⟨rfl, by rw [hU], by rw [hU]; exact hPc, va_K.moved hW.alike hKc, hDc.self⟩⟩ rfl rfl hl.1 rfl (lv_room (Nat.le_of_ble_eq_true rfl)) d_T_init_79 ⟨Nat.le_of_ble_eq_true rfl, Nat.le_of_ble_eq_true rfl⟩) hS (fun q _ h => hFc q h) hFc (fun u t H1 locs ht hvm hw hB hz1 hk1 hS => ?_)
      obtain ⟨hP1, hK1, hD1⟩ := hB
      rw [ht] at hP1
      have hK1 := va_K.moved hvm.symm hK1
      obtain ⟨hP, hD⟩ := va_join (wr := [(q0, .inr (0, [.int (nI (nOf x)), .ref (w4), .ref (w5), .null])), (w4, .inr (1, [.ref (hr1)])), (hr1, .inl (ca, (nOf x) * 512, .inl (fun z => sx ((fun _ => 0) z)))), (w5, .inr (2, cFs w4 (nOf x) 0))]) (w1 := [(w6, .inr (2, cFs w4 (nOf x) 1))]) hP hD [4] [0, 1, 2, 3] rfl rfl (by decide) (by decide) hk1 hFc hP1 hD1
      have hK := (hK.sub (tys' := [(ca, .byte)]) [0] rfl).app hK1
      generalize H1 = H at hP hS ⊢
      have hP : va_P D classes [(q0, .inr (0, [.int (nI (nOf x)), .ref (w4), .ref (w5), .null])), (w4, .inr (1, [.ref (hr1)])), (hr1, .inl (ca, (nOf x) * 512, .inl (fun z => sx ((fun _ => 0) z)))), (w5, .inr (2, cFs w4 (nOf x) 0)), (w6, .inr (2, cFs w4 (nOf x) 1))] H := hP
      have hD : va_D A [(q0, .inr (0, [.int (nI (nOf x)), .ref (w4), .ref (w5), .null])), (w4, .inr (1, [.ref (hr1)])), (hr1, .inl (ca, (nOf x) * 512, .inl (fun z => sx ((fun _ => 0) z)))), (w5, .inr (2, cFs w4 (nOf x) 0)), (w6, .inr (2, cFs w4 (nOf x) 1))] := hD
      have hK : va_K D classes [(ca, .byte)] s := hK
      refine W.widen (k := 4) (n := 12305) (by decide) (by decide) ?_
      refine va_putF (D := D) (ci := 0) (v := .ref (w6)) (ty := .object "TwinTables$Copy") (C := R_T) (T := F_T) (N := 4) hx hb hts (fun w h => .tail _ (fi_T w h)) ft_T ft_T_ok fn_T hown hK hP hD hS 0 rfl rfl 3 (by decide) (hts _ (.tail _ m_89)) (fun _ h9 => h9) rfl hin rfl (by decide +kernel) rfl rfl (Nat.le_of_ble_eq_true rfl) d_T_init_82 (fun H locs hP hD hS => ?_)
      have hP : va_P D classes [(q0, .inr (0, [.int (nI (nOf x)), .ref (w4), .ref (w5), .ref (w6)])), (w4, .inr (1, [.ref (hr1)])), (hr1, .inl (ca, (nOf x) * 512, .inl (fun z => sx ((fun _ => 0) z)))), (w5, .inr (2, cFs w4 (nOf x) 0)), (w6, .inr (2, cFs w4 (nOf x) 1))] H := hP
      have hD : va_D A [(q0, .inr (0, [.int (nI (nOf x)), .ref (w4), .ref (w5), .ref (w6)])), (w4, .inr (1, [.ref (hr1)])), (hr1, .inl (ca, (nOf x) * 512, .inl (fun z => sx ((fun _ => 0) z)))), (w5, .inr (2, cFs w4 (nOf x) 0)), (w6, .inr (2, cFs w4 (nOf x) 1))] := hD
      refine W.widen (k := 4) (n := 12305) (Nat.le_of_ble_eq_true rfl) (Nat.le_of_ble_eq_true rfl) ?_
      exact W.vret hx hb hr (fun t ht hW => ⟨⟨((fun i => if i = 0 then q0 else if i = 1 then w4 else if i = 2 then w5 else if i = 3 then w6 else hr1), ca), rfl, trivial, rfl, by rw [ht]; exact hP.sub [0, 1, 3, 4, 2] rfl, va_K.moved hW.alike (hK.sub [0] rfl), hD.sub [0, 1, 3, 4, 2] (by decide) rfl⟩, hS.F ht⟩) hS.2.2 d_T_init_85 hlk
    · refine lv_bipush (v := nI 16) hx hb d_T_init_17 rfl ?_
      refine lv_goto (tgt := 23) hx hb d_T_init_19 (by decide) ?_
      refine lv_eqi (nOf_b c_14) ?_
      refine va_putF (D := D) (ci := 0) (v := .int (nI (nOf x))) (ty := .int) (C := R_T) (T := F_T) (N := 4) hx hb hts (fun w h => .tail _ (fi_T w h)) ft_T ft_T_ok fn_T hown hK hP hD hS 0 rfl rfl 0 (by decide) (hts _ (.tail _ m_86)) (fun _ h9 => h9) rfl hin rfl (by decide +kernel) rfl rfl (Nat.le_of_ble_eq_true rfl) d_T_init_23 (fun H locs hP hD hS => ?_)
      have hP : va_P D classes [(q0, .inr (0, [.int (nI (nOf x)), .null, .null, .null]))] H := hP
      have hD : va_D A [(q0, .inr (0, [.int (nI (nOf x)), .null, .null, .null]))] := hD
      refine lv_aload_n hx hb d_T_init_26 rfl (lv_at hl 0 rfl) ?_
      refine va_new (ci := 1) (fs := [.null]) (C := R_B) (T := F_B) (N := 1) hx hb hts (fun w h => .tail _ (fi_B w h)) ft_B ft_B_ok hown (hts _ (.tail _ m_43)) (hts _ (.tail _ m_44)) (hts _ (.tail _ m_31)) hK hP hD hS hA rfl (fun j hj => by rcases (show j = 0 by omega) with rfl <;> rfl) (Nat.le_of_ble_eq_true rfl) (Nat.le_of_ble_eq_true rfl) d_T_init_27 (fun w7 H hP hD hS => ?_)
      have hP : va_P D classes [(q0, .inr (0, [.int (nI (nOf x)), .null, .null, .null])), (w7, .inr (1, [.null]))] H := hP
      have hD : va_D A [(q0, .inr (0, [.int (nI (nOf x)), .null, .null, .null])), (w7, .inr (1, [.null]))] := hD
      refine W.widen (k := 1) (n := 1) (by decide) (by decide) ?_
      refine lv_dup hx hb d_T_init_30 rfl ?_
      refine lv_aload_n hx hb d_T_init_31 rfl (lv_at hl 0 rfl) ?_
      refine va_get (D := D) (ci := 0) (v := .int (nI (nOf x))) (C := R_T) (T := F_T) (N := 4) hx hb hts (fun w h => .tail _ (fi_T w h)) hown hK hP 0 rfl rfl 0 (by decide) (hts _ (.tail _ m_86)) (fun _ h9 => h9) rfl d_T_init_32 ?_
      refine lv_sipush (v := nI 512) hx hb d_T_init_35 rfl ?_
      refine lv_imulN hx hb d_T_init_38 ?_
      have hPc := hP.sub (ws' := [(w7, .inr (1, [.null]))]) [1] rfl
      have hDc := hD.sub (ws' := [(w7, .inr (1, [.null]))]) [1] (by decide) rfl
      have hKc := hK.sub (tys' := []) [] rfl
      have hFc := va_free (wc := [(w7, .inr (1, [.null]))]) hD hS hA [1] rfl
      refine va_callv (va_runI (As := [.int (nI ((nOf x) * 512))]) (rest := [.ref (w7), .ref (q0)]) ⟨hx, hb, hml, hown, hts⟩ (c_B_init l D (va_A [(w7, .inr (1, [.null]))] H.size) w7 H.size (fun _ h => Or.inr h) ((nOf x) * 512) (by omega)) (cwI 1 hts (gd_C m_47) rfl rfl rfl (hts _ (.tail _ m_31)) (hts _ (.tail _ m_45)) (hts _ (.tail _ m_46)) rfl hd_B_init.2 ⟨Nat.le_of_ble_eq_true rfl, Nat.le_of_ble_eq_true rfl⟩) ⟨fun a U g mk q => by obtain ⟨q0, q1, qP, qK, qD⟩ := q; exact ⟨q0, q1, qP, va_K.moved (u := U) (U := U.calling g mk a) (Vm.Alike.refl U.vm) qK, qD⟩, fun U hU hW => ⟨rfl, by rw [hU], by rw [hU]; exact hPc, va_K.moved hW.alike hKc, hDc.self⟩⟩ rfl rfl hl.1 rfl (lv_room (Nat.le_of_ble_eq_true rfl)) d_T_init_39 ⟨Nat.le_of_ble_eq_true rfl, Nat.le_of_ble_eq_true rfl⟩) hS (fun q _ h => hFc q h) hFc (fun u t H1 locs ht hvm hw hB hz1 hk1 hS => ?_)
      obtain ⟨hr1, ca⟩ := u
      dsimp only at hB
      obtain ⟨hP1, hK1, hD1⟩ := hB
      rw [ht] at hP1
      have hK1 := va_K.moved hvm.symm hK1
      obtain ⟨hP, hD⟩ := va_join (wr := [(q0, .inr (0, [.int (nI (nOf x)), .null, .null, .null]))]) (w1 := [(w7, .inr (1, [.ref (hr1)])), (hr1, .inl (ca, (nOf x) * 512, .inl (fun z => sx ((fun _ => 0) z))))]) hP hD [1] [0] rfl rfl (by decide) (by decide) hk1 hFc hP1 hD1
      have hK := (hK.sub (tys' := []) [] rfl).app hK1
      generalize H1 = H at hP hS ⊢
      have hP : va_P D classes [(q0, .inr (0, [.int (nI (nOf x)), .null, .null, .null])), (w7, .inr (1, [.ref (hr1)])), (hr1, .inl (ca, (nOf x) * 512, .inl (fun z => sx ((fun _ => 0) z))))] H := hP
      have hD : va_D A [(q0, .inr (0, [.int (nI (nOf x)), .null, .null, .null])), (w7, .inr (1, [.ref (hr1)])), (hr1, .inl (ca, (nOf x) * 512, .inl (fun z => sx ((fun _ => 0) z))))] := hD
      have hK : va_K D classes [(ca, .byte)] s := hK
      refine W.widen (k := 2) (n := 12289) (by decide) (by decide) ?_
      refine va_putF (D := D) (ci := 0) (v := .ref (w7)) (ty := .object "TwinTables$Bytes") (C := R_T) (T := F_T) (N := 4) hx hb hts (fun w h => .tail _ (fi_T w h)) ft_T ft_T_ok fn_T hown hK hP hD hS 0 rfl rfl 1 (by decide) (hts _ (.tail _ m_87)) (fun _ h9 => h9) rfl hin rfl (by decide +kernel) rfl rfl (Nat.le_of_ble_eq_true rfl) d_T_init_42 (fun H locs hP hD hS => ?_)
      have hP : va_P D classes [(q0, .inr (0, [.int (nI (nOf x)), .ref (w7), .null, .null])), (w7, .inr (1, [.ref (hr1)])), (hr1, .inl (ca, (nOf x) * 512, .inl (fun z => sx ((fun _ => 0) z))))] H := hP
      have hD : va_D A [(q0, .inr (0, [.int (nI (nOf x)), .ref (w7), .null, .null])), (w7, .inr (1, [.ref (hr1)])), (hr1, .inl (ca, (nOf x) * 512, .inl (fun z => sx ((fun _ => 0) z))))] := hD
      refine lv_aload_n hx hb d_T_init_45 rfl (lv_at hl 0 rfl) ?_
      refine va_new (ci := 2) (fs := [.int 0, .null, .int 0, .int 0, .int 0, .int 0, .int 0, .int 0]) (C := R_C) (T := F_C) (N := 8) hx hb hts (fun w h => .tail _ (fi_C w h)) ft_C ft_C_ok hown (hts _ (.tail _ m_54)) (hts _ (.tail _ m_55)) (hts _ (.tail _ m_32)) hK hP hD hS hA rfl (fun j hj => by rcases (show j = 0 ∨ j = 1 ∨ j = 2 ∨ j = 3 ∨ j = 4 ∨ j = 5 ∨ j = 6 ∨ j = 7 by omega) with rfl | rfl | rfl | rfl | rfl | rfl | rfl | rfl <;> rfl) (Nat.le_of_ble_eq_true rfl) (Nat.le_of_ble_eq_true rfl) d_T_init_46 (fun w8 H hP hD hS => ?_)
      have hP : va_P D classes [(q0, .inr (0, [.int (nI (nOf x)), .ref (w7), .null, .null])), (w7, .inr (1, [.ref (hr1)])), (hr1, .inl (ca, (nOf x) * 512, .inl (fun z => sx ((fun _ => 0) z)))), (w8, .inr (2, [.int (nI (0)), .null, .int (nI (0)), .int (nI (0)), .int (nI (0)), .int (nI (0)), .int (nI (0)), .int (nI (0))]))] H := hP
      have hD : va_D A [(q0, .inr (0, [.int (nI (nOf x)), .ref (w7), .null, .null])), (w7, .inr (1, [.ref (hr1)])), (hr1, .inl (ca, (nOf x) * 512, .inl (fun z => sx ((fun _ => 0) z)))), (w8, .inr (2, [.int (nI (0)), .null, .int (nI (0)), .int (nI (0)), .int (nI (0)), .int (nI (0)), .int (nI (0)), .int (nI (0))]))] := hD
      refine W.widen (k := 3) (n := 12297) (by decide) (by decide) ?_
      refine lv_dup hx hb d_T_init_49 rfl ?_
      refine lv_aload_n hx hb d_T_init_50 rfl (lv_at hl 0 rfl) ?_
      refine va_get (D := D) (ci := 0) (v := .ref (w7)) (C := R_T) (T := F_T) (N := 4) hx hb hts (fun w h => .tail _ (fi_T w h)) hown hK hP 0 rfl rfl 1 (by decide) (hts _ (.tail _ m_87)) (fun _ h9 => h9) rfl d_T_init_51 ?_
      refine lv_aload_n hx hb d_T_init_54 rfl (lv_at hl 0 rfl) ?_
      refine va_get (D := D) (ci := 0) (v := .int (nI (nOf x))) (C := R_T) (T := F_T) (N := 4) hx hb hts (fun w h => .tail _ (fi_T w h)) hown hK hP 0 rfl rfl 0 (by decide) (hts _ (.tail _ m_86)) (fun _ h9 => h9) rfl d_T_init_55 ?_
      refine lv_iconst (v := nI 0) hx hb d_T_init_58 rfl ?_
      have hPc := hP.sub (ws' := [(w8, .inr (2, [.int (nI (0)), .null, .int (nI (0)), .int (nI (0)), .int (nI (0)), .int (nI (0)), .int (nI (0)), .int (nI (0))]))]) [3] rfl
      have hDc := hD.sub (ws' := [(w8, .inr (2, [.int (nI (0)), .null, .int (nI (0)), .int (nI (0)), .int (nI (0)), .int (nI (0)), .int (nI (0)), .int (nI (0))]))]) [3] (by decide) rfl
      have hKc := hK.sub (tys' := []) [] rfl
      have hFc := va_free (wc := [(w8, .inr (2, [.int (nI (0)), .null, .int (nI (0)), .int (nI (0)), .int (nI (0)), .int (nI (0)), .int (nI (0)), .int (nI (0))]))]) hD hS hA [3] rfl
      refine va_callv (va_runI (As := [.ref (w7), .int (nI (nOf x)), .int (nI (0))]) (rest := [.ref (w8), .ref (q0)]) ⟨hx, hb, hml, hown, hts⟩ (c_C_init l D (va_A [(w8, .inr (2, [.int (nI (0)), .null, .int (nI (0)), .int (nI (0)), .int (nI (0)), .int (nI (0)), .int (nI (0)), .int (nI (0))]))] H.size) w8 H.size (fun _ h => Or.inr h) (w7) (nOf x) hN1) (cwI 3 hts (gd_C m_58) rfl rfl rfl (hts _ (.tail _ m_32)) (hts _ (.tail _ m_56)) (hts _ (.tail _ m_57)) rfl hd_C_init.2 ⟨Nat.le_of_ble_eq_true rfl, Nat.le_of_ble_eq_true rfl⟩) ⟨fun a U g mk q => by obtain ⟨q0, q1, qP, qK, qD⟩ := q; exact ⟨q0, q1, qP, va_K.moved (u := U) (U := U.calling g mk a) (Vm.Alike.refl U.vm) qK, qD⟩, fun U hU hW => ⟨rfl, by rw [hU], by rw [hU]; exact hPc, va_K.moved hW.alike hKc, hDc.self⟩⟩ rfl rfl hl.1 rfl (lv_room (Nat.le_of_ble_eq_true rfl)) d_T_init_59 ⟨Nat.le_of_ble_eq_true rfl, Nat.le_of_ble_eq_true rfl⟩) hS (fun q _ h => hFc q h) hFc (fun u t H1 locs ht hvm hw hB hz1 hk1 hS => ?_)
      obtain ⟨hP1, hK1, hD1⟩ := hB
      rw [ht] at hP1
      have hK1 := va_K.moved hvm.symm hK1
      obtain ⟨hP, hD⟩ := va_join (wr := [(q0, .inr (0, [.int (nI (nOf x)), .ref (w7), .null, .null])), (w7, .inr (1, [.ref (hr1)])), (hr1, .inl (ca, (nOf x) * 512, .inl (fun z => sx ((fun _ => 0) z))))]) (w1 := [(w8, .inr (2, cFs w7 (nOf x) 0))]) hP hD [3] [0, 1, 2] rfl rfl (by decide) (by decide) hk1 hFc hP1 hD1
      have hK := (hK.sub (tys' := [(ca, .byte)]) [0] rfl).app hK1
      generalize H1 = H at hP hS ⊢
      have hP : va_P D classes [(q0, .inr (0, [.int (nI (nOf x)), .ref (w7), .null, .null])), (w7, .inr (1, [.ref (hr1)])), (hr1, .inl (ca, (nOf x) * 512, .inl (fun z => sx ((fun _ => 0) z)))), (w8, .inr (2, cFs w7 (nOf x) 0))] H := hP
      have hD : va_D A [(q0, .inr (0, [.int (nI (nOf x)), .ref (w7), .null, .null])), (w7, .inr (1, [.ref (hr1)])), (hr1, .inl (ca, (nOf x) * 512, .inl (fun z => sx ((fun _ => 0) z)))), (w8, .inr (2, cFs w7 (nOf x) 0))] := hD
      have hK : va_K D classes [(ca, .byte)] s := hK
      refine W.widen (k := 3) (n := 12297) (by decide) (by decide) ?_
      refine va_putF (D := D) (ci := 0) (v := .ref (w8)) (ty := .object "TwinTables$Copy") (C := R_T) (T := F_T) (N := 4) hx hb hts (fun w h => .tail _ (fi_T w h)) ft_T ft_T_ok fn_T hown hK hP hD hS 0 rfl rfl 2 (by decide) (hts _ (.tail _ m_88)) (fun _ h9 => h9) rfl hin rfl (by decide +kernel) rfl rfl (Nat.le_of_ble_eq_true rfl) d_T_init_62 (fun H locs hP hD hS => ?_)
      have hP : va_P D classes [(q0, .inr (0, [.int (nI (nOf x)), .ref (w7), .ref (w8), .null])), (w7, .inr (1, [.ref (hr1)])), (hr1, .inl (ca, (nOf x) * 512, .inl (fun z => sx ((fun _ => 0) z)))), (w8, .inr (2, cFs w7 (nOf x) 0))] H := hP
      have hD : va_D A [(q0, .inr (0, [.int (nI (nOf x)), .ref (w7), .ref (w8), .null])), (w7, .inr (1, [.ref (hr1)])), (hr1, .inl (ca, (nOf x) * 512, .inl (fun z => sx ((fun _ => 0) z)))), (w8, .inr (2, cFs w7 (nOf x) 0))] := hD
      refine lv_aload_n hx hb d_T_init_65 rfl (lv_at hl 0 rfl) ?_
      refine va_new (ci := 2) (fs := [.int 0, .null, .int 0, .int 0, .int 0, .int 0, .int 0, .int 0]) (C := R_C) (T := F_C) (N := 8) hx hb hts (fun w h => .tail _ (fi_C w h)) ft_C ft_C_ok hown (hts _ (.tail _ m_54)) (hts _ (.tail _ m_55)) (hts _ (.tail _ m_32)) hK hP hD hS hA rfl (fun j hj => by rcases (show j = 0 ∨ j = 1 ∨ j = 2 ∨ j = 3 ∨ j = 4 ∨ j = 5 ∨ j = 6 ∨ j = 7 by omega) with rfl | rfl | rfl | rfl | rfl | rfl | rfl | rfl <;> rfl) (Nat.le_of_ble_eq_true rfl) (Nat.le_of_ble_eq_true rfl) d_T_init_66 (fun w9 H hP hD hS => ?_)
      have hP : va_P D classes [(q0, .inr (0, [.int (nI (nOf x)), .ref (w7), .ref (w8), .null])), (w7, .inr (1, [.ref (hr1)])), (hr1, .inl (ca, (nOf x) * 512, .inl (fun z => sx ((fun _ => 0) z)))), (w8, .inr (2, cFs w7 (nOf x) 0)), (w9, .inr (2, [.int (nI (0)), .null, .int (nI (0)), .int (nI (0)), .int (nI (0)), .int (nI (0)), .int (nI (0)), .int (nI (0))]))] H := hP
      have hD : va_D A [(q0, .inr (0, [.int (nI (nOf x)), .ref (w7), .ref (w8), .null])), (w7, .inr (1, [.ref (hr1)])), (hr1, .inl (ca, (nOf x) * 512, .inl (fun z => sx ((fun _ => 0) z)))), (w8, .inr (2, cFs w7 (nOf x) 0)), (w9, .inr (2, [.int (nI (0)), .null, .int (nI (0)), .int (nI (0)), .int (nI (0)), .int (nI (0)), .int (nI (0)), .int (nI (0))]))] := hD
      refine W.widen (k := 4) (n := 12305) (by decide) (by decide) ?_
      refine lv_dup hx hb d_T_init_69 rfl ?_
      refine lv_aload_n hx hb d_T_init_70 rfl (lv_at hl 0 rfl) ?_
      refine va_get (D := D) (ci := 0) (v := .ref (w7)) (C := R_T) (T := F_T) (N := 4) hx hb hts (fun w h => .tail _ (fi_T w h)) hown hK hP 0 rfl rfl 1 (by decide) (hts _ (.tail _ m_87)) (fun _ h9 => h9) rfl d_T_init_71 ?_
      refine lv_aload_n hx hb d_T_init_74 rfl (lv_at hl 0 rfl) ?_
      refine va_get (D := D) (ci := 0) (v := .int (nI (nOf x))) (C := R_T) (T := F_T) (N := 4) hx hb hts (fun w h => .tail _ (fi_T w h)) hown hK hP 0 rfl rfl 0 (by decide) (hts _ (.tail _ m_86)) (fun _ h9 => h9) rfl d_T_init_75 ?_
      refine lv_iconst (v := nI 1) hx hb d_T_init_78 rfl ?_
      have hPc := hP.sub (ws' := [(w9, .inr (2, [.int (nI (0)), .null, .int (nI (0)), .int (nI (0)), .int (nI (0)), .int (nI (0)), .int (nI (0)), .int (nI (0))]))]) [4] rfl
      have hDc := hD.sub (ws' := [(w9, .inr (2, [.int (nI (0)), .null, .int (nI (0)), .int (nI (0)), .int (nI (0)), .int (nI (0)), .int (nI (0)), .int (nI (0))]))]) [4] (by decide) rfl
      have hKc := hK.sub (tys' := []) [] rfl
      have hFc := va_free (wc := [(w9, .inr (2, [.int (nI (0)), .null, .int (nI (0)), .int (nI (0)), .int (nI (0)), .int (nI (0)), .int (nI (0)), .int (nI (0))]))]) hD hS hA [4] rfl
      refine va_callv (va_runI (As := [.ref (w7), .int (nI (nOf x)), .int (nI (1))]) (rest := [.ref (w9), .ref (q0)]) ⟨hx, hb, hml, hown, hts⟩ (c_C_init1 l D (va_A [(w9, .inr (2, [.int (nI (0)), .null, .int (nI (0)), .int (nI (0)), .int (nI (0)), .int (nI (0)), .int (nI (0)), .int (nI (0))]))] H.size) w9 H.size (fun _ h => Or.inr h) (w7) (nOf x) hN1) (cwI 3 hts (gd_C m_58) rfl rfl rfl (hts _ (.tail _ m_32)) (hts _ (.tail _ m_56)) (hts _ (.tail _ m_57)) rfl hd_C_init.2 ⟨Nat.le_of_ble_eq_true rfl, Nat.le_of_ble_eq_true rfl⟩) ⟨fun a U g mk q => by obtain ⟨q0, q1, qP, qK, qD⟩ := q; exact ⟨q0, q1, qP, va_K.moved (u := U) (U := U.calling g mk a) (Vm.Alike.refl U.vm) qK, qD⟩, fun U hU hW => ⟨rfl, by rw [hU], by rw [hU]; exact hPc, va_K.moved hW.alike hKc, hDc.self⟩⟩ rfl rfl hl.1 rfl (lv_room (Nat.le_of_ble_eq_true rfl)) d_T_init_79 ⟨Nat.le_of_ble_eq_true rfl, Nat.le_of_ble_eq_true rfl⟩) hS (fun q _ h => hFc q h) hFc (fun u t H1 locs ht hvm hw hB hz1 hk1 hS => ?_)
      obtain ⟨hP1, hK1, hD1⟩ := hB
      rw [ht] at hP1
      have hK1 := va_K.moved hvm.symm hK1
      obtain ⟨hP, hD⟩ := va_join (wr := [(q0, .inr (0, [.int (nI (nOf x)), .ref (w7), .ref (w8), .null])), (w7, .inr (1, [.ref (hr1)])), (hr1, .inl (ca, (nOf x) * 512, .inl (fun z => sx ((fun _ => 0) z)))), (w8, .inr (2, cFs w7 (nOf x) 0))]) (w1 := [(w9, .inr (2, cFs w7 (nOf x) 1))]) hP hD [4] [0, 1, 2, 3] rfl rfl (by decide) (by decide) hk1 hFc hP1 hD1
      have hK := (hK.sub (tys' := [(ca, .byte)]) [0] rfl).app hK1
      generalize H1 = H at hP hS ⊢
      have hP : va_P D classes [(q0, .inr (0, [.int (nI (nOf x)), .ref (w7), .ref (w8), .null])), (w7, .inr (1, [.ref (hr1)])), (hr1, .inl (ca, (nOf x) * 512, .inl (fun z => sx ((fun _ => 0) z)))), (w8, .inr (2, cFs w7 (nOf x) 0)), (w9, .inr (2, cFs w7 (nOf x) 1))] H := hP
      have hD : va_D A [(q0, .inr (0, [.int (nI (nOf x)), .ref (w7), .ref (w8), .null])), (w7, .inr (1, [.ref (hr1)])), (hr1, .inl (ca, (nOf x) * 512, .inl (fun z => sx ((fun _ => 0) z)))), (w8, .inr (2, cFs w7 (nOf x) 0)), (w9, .inr (2, cFs w7 (nOf x) 1))] := hD
      have hK : va_K D classes [(ca, .byte)] s := hK
      refine W.widen (k := 4) (n := 12305) (by decide) (by decide) ?_
      refine va_putF (D := D) (ci := 0) (v := .ref (w9)) (ty := .object "TwinTables$Copy") (C := R_T) (T := F_T) (N := 4) hx hb hts (fun w h => .tail _ (fi_T w h)) ft_T ft_T_ok fn_T hown hK hP hD hS 0 rfl rfl 3 (by decide) (hts _ (.tail _ m_89)) (fun _ h9 => h9) rfl hin rfl (by decide +kernel) rfl rfl (Nat.le_of_ble_eq_true rfl) d_T_init_82 (fun H locs hP hD hS => ?_)
      have hP : va_P D classes [(q0, .inr (0, [.int (nI (nOf x)), .ref (w7), .ref (w8), .ref (w9)])), (w7, .inr (1, [.ref (hr1)])), (hr1, .inl (ca, (nOf x) * 512, .inl (fun z => sx ((fun _ => 0) z)))), (w8, .inr (2, cFs w7 (nOf x) 0)), (w9, .inr (2, cFs w7 (nOf x) 1))] H := hP
      have hD : va_D A [(q0, .inr (0, [.int (nI (nOf x)), .ref (w7), .ref (w8), .ref (w9)])), (w7, .inr (1, [.ref (hr1)])), (hr1, .inl (ca, (nOf x) * 512, .inl (fun z => sx ((fun _ => 0) z)))), (w8, .inr (2, cFs w7 (nOf x) 0)), (w9, .inr (2, cFs w7 (nOf x) 1))] := hD
      refine W.widen (k := 4) (n := 12305) (Nat.le_of_ble_eq_true rfl) (Nat.le_of_ble_eq_true rfl) ?_
      exact W.vret hx hb hr (fun t ht hW => ⟨⟨((fun i => if i = 0 then q0 else if i = 1 then w7 else if i = 2 then w8 else if i = 3 then w9 else hr1), ca), rfl, trivial, rfl, by rw [ht]; exact hP.sub [0, 1, 3, 4, 2] rfl, va_K.moved hW.alike (hK.sub [0] rfl), hD.sub [0, 1, 3, 4, 2] (by decide) rfl⟩, hS.F ht⟩) hS.2.2 d_T_init_85 hlk
abbrev w_M_init : List Cond := .code y_M_init b_M_init 2 none :: ALL
abbrev rm_M_init : Room := { frames := 1, cells := 3, slots := 13328, locals := 20 }
theorem hd_M_init : y_M_init.cls = R_M ∧ y_M_init.cls ≠ "java/lang/invoke/MethodHandle" ∧ y_M_init.cls ≠ "java/lang/invoke/VarHandle" ∧ (parseMethodDescriptor y_M_init.desc).map (fun d => d.parameters.length) = some 1 := by decide +kernel
set_option maxHeartbeats 4000000 in
set_option maxRecDepth 100000 in
theorem c_M_init (l : Launch) (D : va_G) (A : Nat → Prop) (q0 sz : Nat) (hA : ∀ z, sz ≤ z → A z) (x : Int32) : Met l y_M_init w_M_init rm_M_init (va_Pc [.ref (q0), .int (x)] (fun U => U.heap.size = sz ∧ va_P D classes [(q0, .inr (3, [.int (nI (0)), .null, .null, .null]))] U.heap ∧ va_K D classes [] U ∧ va_D A [(q0, .inr (3, [.int (nI (0)), .null, .null, .null]))])) (va_Qv (fun _ : (Nat → Nat) × (Nat → ClassId) => True) (fun u t => u.1 0 = q0 ∧ va_P D classes (mW u.1 u.2 (nOf x) (mU (fun _ => 0) (fun _ => 0) (fun _ => 0))) t.heap ∧ va_K D classes [(u.2 1, .int), (u.2 2, .int), (u.2 3, .int)] t ∧ va_D A (mW u.1 u.2 (nOf x) (mU (fun _ => 0) (fun _ => 0) (fun _ => 0)))) A) 3 13328 A := by
  refine g_ofW (cc := b_M_init) (maxL := 2) (ret := none) (by decide) rfl (Nat.le_of_ble_eq_true rfl) ?_
  intro p e s m below meth c ls hx hb hml hr hlk hown hts hnm hB hl
  have hown : s.vm.findClass R_M = some m.cls := hown
  have hin : meth.name = "<init>" := hnm
  obtain ⟨rfl, hP, hK, hD⟩ := hB
  have hS : va_S A s.heap s.heap [] := va_S.rf
  have hl : lv_has ls 2 [(0, .ref (q0)), (1, .int (x))] := hl
  refine lv_aload_n hx hb d_M_init_0 rfl (lv_at hl 0 rfl) ?_
  refine W.objInit hx hb hown (hts _ (.tail _ m_403)) (hts _ (.tail _ m_41)) (hts _ (.tail _ m_42)) rfl (by rw [hml]; exact hl.1) rfl d_M_init_1 (Nat.le_of_ble_eq_true rfl) (Nat.le_of_ble_eq_true rfl) ?_
  refine W.eq (g2 := F0 m 4 ls []) rfl ?_
  refine lv_aload_n hx hb d_M_init_4 rfl (lv_at hl 0 rfl) ?_
  refine lv_sipush (v := nI 12288) hx hb d_M_init_5 rfl ?_
  refine va_newa (a0 := (12288, .inl (fun z => zx ((fun _ => 0) z)))) (atype := .int) (ty := .int) hx hb (hts _ (.tail _ m_417)) rfl hK hP hD hS hA (fun _ => by rw [show (fun z : Nat => zx ((fun _ => 0) z)) = fun _ => (0 : Int32) from funext (fun _ => (by decide : zx 0 = 0))]; rfl) (nI_pos (by omega)) (nI_clamp (by omega)) (by show 12288 * 4 ≤ 536870912; omega) (Nat.le_of_ble_eq_true rfl) (by show 0 + 12288 ≤ 13328; omega) d_M_init_8 (fun w1 c1 H hK hP hD hS => ?_)
  have hP : va_P D classes [(q0, .inr (3, [.int (nI (0)), .null, .null, .null])), (w1, .inl (c1, 12288, .inl (fun z => zx ((fun _ => 0) z))))] H := hP
  have hD : va_D A [(q0, .inr (3, [.int (nI (0)), .null, .null, .null])), (w1, .inl (c1, 12288, .inl (fun z => zx ((fun _ => 0) z))))] := hD
  have hK : va_K D classes [(c1, .int)] s := hK
  refine W.widen (k := 1) (n := 12288) (by decide) (by omega) ?_
  refine va_putF (D := D) (ci := 3) (v := .ref (w1)) (ty := .array .int) (C := R_M) (T := F_M) (N := 4) hx hb hts (fun w h => .tail _ (fi_M w h)) ft_M ft_M_ok fn_M hown hK hP hD hS 0 rfl rfl 1 (by decide) (hts _ (.tail _ m_405)) (fun _ h9 => h9) rfl hin rfl (by decide +kernel) rfl rfl (Nat.le_of_ble_eq_true rfl) d_M_init_10 (fun H locs hP hD hS => ?_)
  have hP : va_P D classes [(q0, .inr (3, [.int (nI (0)), .ref (w1), .null, .null])), (w1, .inl (c1, 12288, .inl (fun z => zx ((fun _ => 0) z))))] H := hP
  have hD : va_D A [(q0, .inr (3, [.int (nI (0)), .ref (w1), .null, .null])), (w1, .inl (c1, 12288, .inl (fun z => zx ((fun _ => 0) z))))] := hD
  refine lv_aload_n hx hb d_M_init_13 rfl (lv_at hl 0 rfl) ?_
  refine lv_sipush (v := nI 1024) hx hb d_M_init_14 rfl ?_
  refine va_newa (a0 := (1024, .inl (fun z => zx ((fun _ => 0) z)))) (atype := .int) (ty := .int) hx hb (hts _ (.tail _ m_417)) rfl hK hP hD hS hA (fun _ => by rw [show (fun z : Nat => zx ((fun _ => 0) z)) = fun _ => (0 : Int32) from funext (fun _ => (by decide : zx 0 = 0))]; rfl) (nI_pos (by omega)) (nI_clamp (by omega)) (by show 1024 * 4 ≤ 536870912; omega) (Nat.le_of_ble_eq_true rfl) (by show 12288 + 1024 ≤ 13328; omega) d_M_init_17 (fun w2 c2 H hK hP hD hS => ?_)
  have hP : va_P D classes [(q0, .inr (3, [.int (nI (0)), .ref (w1), .null, .null])), (w1, .inl (c1, 12288, .inl (fun z => zx ((fun _ => 0) z)))), (w2, .inl (c2, 1024, .inl (fun z => zx ((fun _ => 0) z))))] H := hP
  have hD : va_D A [(q0, .inr (3, [.int (nI (0)), .ref (w1), .null, .null])), (w1, .inl (c1, 12288, .inl (fun z => zx ((fun _ => 0) z)))), (w2, .inl (c2, 1024, .inl (fun z => zx ((fun _ => 0) z))))] := hD
  have hK : va_K D classes [(c1, .int), (c2, .int)] s := hK
  refine W.widen (k := 2) (n := 13312) (by decide) (by omega) ?_
  refine va_putF (D := D) (ci := 3) (v := .ref (w2)) (ty := .array .int) (C := R_M) (T := F_M) (N := 4) hx hb hts (fun w h => .tail _ (fi_M w h)) ft_M ft_M_ok fn_M hown hK hP hD hS 0 rfl rfl 2 (by decide) (hts _ (.tail _ m_406)) (fun _ h9 => h9) rfl hin rfl (by decide +kernel) rfl rfl (Nat.le_of_ble_eq_true rfl) d_M_init_19 (fun H locs hP hD hS => ?_)
  have hP : va_P D classes [(q0, .inr (3, [.int (nI (0)), .ref (w1), .ref (w2), .null])), (w1, .inl (c1, 12288, .inl (fun z => zx ((fun _ => 0) z)))), (w2, .inl (c2, 1024, .inl (fun z => zx ((fun _ => 0) z))))] H := hP
  have hD : va_D A [(q0, .inr (3, [.int (nI (0)), .ref (w1), .ref (w2), .null])), (w1, .inl (c1, 12288, .inl (fun z => zx ((fun _ => 0) z)))), (w2, .inl (c2, 1024, .inl (fun z => zx ((fun _ => 0) z))))] := hD
  refine lv_aload_n hx hb d_M_init_22 rfl (lv_at hl 0 rfl) ?_
  refine lv_bipush (v := nI 16) hx hb d_M_init_23 rfl ?_
  refine va_newa (a0 := (16, .inl (fun z => zx ((fun _ => 0) z)))) (atype := .int) (ty := .int) hx hb (hts _ (.tail _ m_417)) rfl hK hP hD hS hA (fun _ => by rw [show (fun z : Nat => zx ((fun _ => 0) z)) = fun _ => (0 : Int32) from funext (fun _ => (by decide : zx 0 = 0))]; rfl) (nI_pos (by omega)) (nI_clamp (by omega)) (by show 16 * 4 ≤ 536870912; omega) (Nat.le_of_ble_eq_true rfl) (by show 13312 + 16 ≤ 13328; omega) d_M_init_25 (fun w3 c3 H hK hP hD hS => ?_)
  have hP : va_P D classes [(q0, .inr (3, [.int (nI (0)), .ref (w1), .ref (w2), .null])), (w1, .inl (c1, 12288, .inl (fun z => zx ((fun _ => 0) z)))), (w2, .inl (c2, 1024, .inl (fun z => zx ((fun _ => 0) z)))), (w3, .inl (c3, 16, .inl (fun z => zx ((fun _ => 0) z))))] H := hP
  have hD : va_D A [(q0, .inr (3, [.int (nI (0)), .ref (w1), .ref (w2), .null])), (w1, .inl (c1, 12288, .inl (fun z => zx ((fun _ => 0) z)))), (w2, .inl (c2, 1024, .inl (fun z => zx ((fun _ => 0) z)))), (w3, .inl (c3, 16, .inl (fun z => zx ((fun _ => 0) z))))] := hD
  have hK : va_K D classes [(c1, .int), (c2, .int), (c3, .int)] s := hK
  refine W.widen (k := 3) (n := 13328) (by decide) (by omega) ?_
  refine va_putF (D := D) (ci := 3) (v := .ref (w3)) (ty := .array .int) (C := R_M) (T := F_M) (N := 4) hx hb hts (fun w h => .tail _ (fi_M w h)) ft_M ft_M_ok fn_M hown hK hP hD hS 0 rfl rfl 3 (by decide) (hts _ (.tail _ m_407)) (fun _ h9 => h9) rfl hin rfl (by decide +kernel) rfl rfl (Nat.le_of_ble_eq_true rfl) d_M_init_27 (fun H locs hP hD hS => ?_)
  have hP : va_P D classes [(q0, .inr (3, [.int (nI (0)), .ref (w1), .ref (w2), .ref (w3)])), (w1, .inl (c1, 12288, .inl (fun z => zx ((fun _ => 0) z)))), (w2, .inl (c2, 1024, .inl (fun z => zx ((fun _ => 0) z)))), (w3, .inl (c3, 16, .inl (fun z => zx ((fun _ => 0) z))))] H := hP
  have hD : va_D A [(q0, .inr (3, [.int (nI (0)), .ref (w1), .ref (w2), .ref (w3)])), (w1, .inl (c1, 12288, .inl (fun z => zx ((fun _ => 0) z)))), (w2, .inl (c2, 1024, .inl (fun z => zx ((fun _ => 0) z)))), (w3, .inl (c3, 16, .inl (fun z => zx ((fun _ => 0) z))))] := hD
  refine lv_aload_n hx hb d_M_init_30 rfl (lv_at hl 0 rfl) ?_
  refine lv_iload_n hx hb d_M_init_31 rfl (lv_at hl 1 rfl) ?_
  refine lv_bipush (v := nI 12) hx hb d_M_init_32 rfl ?_
  refine lv_icmp_lt (tgt := 43) hx hb d_M_init_34 (by decide) (fun c_34 => ?_) (fun c_34 => ?_)
  · refine lv_bipush (v := nI 16) hx hb d_M_init_43 rfl ?_
    refine lv_goto (tgt := 49) hx hb d_M_init_45 (by decide) ?_
    refine lv_eqi (nOf_a c_34) ?_
    refine va_putF (D := D) (ci := 3) (v := .int (nI (nOf x))) (ty := .int) (C := R_M) (T := F_M) (N := 4) hx hb hts (fun w h => .tail _ (fi_M w h)) ft_M ft_M_ok fn_M hown hK hP hD hS 0 rfl rfl 0 (by decide) (hts _ (.tail _ m_404)) (fun _ h9 => h9) rfl hin rfl (by decide +kernel) rfl rfl (Nat.le_of_ble_eq_true rfl) d_M_init_49 (fun H locs hP hD hS => ?_)
    have hP : va_P D classes [(q0, .inr (3, [.int (nI (nOf x)), .ref (w1), .ref (w2), .ref (w3)])), (w1, .inl (c1, 12288, .inl (fun z => zx ((fun _ => 0) z)))), (w2, .inl (c2, 1024, .inl (fun z => zx ((fun _ => 0) z)))), (w3, .inl (c3, 16, .inl (fun z => zx ((fun _ => 0) z))))] H := hP
    have hD : va_D A [(q0, .inr (3, [.int (nI (nOf x)), .ref (w1), .ref (w2), .ref (w3)])), (w1, .inl (c1, 12288, .inl (fun z => zx ((fun _ => 0) z)))), (w2, .inl (c2, 1024, .inl (fun z => zx ((fun _ => 0) z)))), (w3, .inl (c3, 16, .inl (fun z => zx ((fun _ => 0) z))))] := hD
    exact W.vret hx hb hr (fun t ht hW => ⟨⟨((fun i => if i = 0 then q0 else if i = 1 then w1 else if i = 2 then w2 else w3), (fun i => if i = 1 then c1 else if i = 2 then c2 else c3)), rfl, trivial, rfl, by rw [ht]; exact hP.sub [0, 1, 2, 3] rfl, va_K.moved hW.alike (hK.sub [0, 1, 2] rfl), hD.sub [0, 1, 2, 3] (by decide) rfl⟩, hS.F ht⟩) hS.2.2 d_M_init_52 hlk
  · refine lv_iload_n hx hb d_M_init_37 rfl (lv_at hl 1 rfl) ?_
    refine lv_bipush (v := nI 24) hx hb d_M_init_38 rfl ?_
    refine lv_icmp_le (tgt := 48) hx hb d_M_init_40 (by decide) (fun c_40 => ?_) (fun c_40 => ?_)
    · refine lv_iload_n hx hb d_M_init_48 rfl (lv_at hl 1 rfl) ?_
      refine lv_eqi (nOf_c c_34 c_40) ?_
      refine va_putF (D := D) (ci := 3) (v := .int (nI (nOf x))) (ty := .int) (C := R_M) (T := F_M) (N := 4) hx hb hts (fun w h => .tail _ (fi_M w h)) ft_M ft_M_ok fn_M hown hK hP hD hS 0 rfl rfl 0 (by decide) (hts _ (.tail _ m_404)) (fun _ h9 => h9) rfl hin rfl (by decide +kernel) rfl rfl (Nat.le_of_ble_eq_true rfl) d_M_init_49 (fun H locs hP hD hS => ?_)
      have hP : va_P D classes [(q0, .inr (3, [.int (nI (nOf x)), .ref (w1), .ref (w2), .ref (w3)])), (w1, .inl (c1, 12288, .inl (fun z => zx ((fun _ => 0) z)))), (w2, .inl (c2, 1024, .inl (fun z => zx ((fun _ => 0) z)))), (w3, .inl (c3, 16, .inl (fun z => zx ((fun _ => 0) z))))] H := hP
      have hD : va_D A [(q0, .inr (3, [.int (nI (nOf x)), .ref (w1), .ref (w2), .ref (w3)])), (w1, .inl (c1, 12288, .inl (fun z => zx ((fun _ => 0) z)))), (w2, .inl (c2, 1024, .inl (fun z => zx ((fun _ => 0) z)))), (w3, .inl (c3, 16, .inl (fun z => zx ((fun _ => 0) z))))] := hD
      exact W.vret hx hb hr (fun t ht hW => ⟨⟨((fun i => if i = 0 then q0 else if i = 1 then w1 else if i = 2 then w2 else w3), (fun i => if i = 1 then c1 else if i = 2 then c2 else c3)), rfl, trivial, rfl, by rw [ht]; exact hP.sub [0, 1, 2, 3] rfl, va_K.moved hW.alike (hK.sub [0, 1, 2] rfl), hD.sub [0, 1, 2, 3] (by decide) rfl⟩, hS.F ht⟩) hS.2.2 d_M_init_52 hlk
    · refine lv_bipush (v := nI 16) hx hb d_M_init_43 rfl ?_
      refine lv_goto (tgt := 49) hx hb d_M_init_45 (by decide) ?_
      refine lv_eqi (nOf_b c_40) ?_
      refine va_putF (D := D) (ci := 3) (v := .int (nI (nOf x))) (ty := .int) (C := R_M) (T := F_M) (N := 4) hx hb hts (fun w h => .tail _ (fi_M w h)) ft_M ft_M_ok fn_M hown hK hP hD hS 0 rfl rfl 0 (by decide) (hts _ (.tail _ m_404)) (fun _ h9 => h9) rfl hin rfl (by decide +kernel) rfl rfl (Nat.le_of_ble_eq_true rfl) d_M_init_49 (fun H locs hP hD hS => ?_)
      have hP : va_P D classes [(q0, .inr (3, [.int (nI (nOf x)), .ref (w1), .ref (w2), .ref (w3)])), (w1, .inl (c1, 12288, .inl (fun z => zx ((fun _ => 0) z)))), (w2, .inl (c2, 1024, .inl (fun z => zx ((fun _ => 0) z)))), (w3, .inl (c3, 16, .inl (fun z => zx ((fun _ => 0) z))))] H := hP
      have hD : va_D A [(q0, .inr (3, [.int (nI (nOf x)), .ref (w1), .ref (w2), .ref (w3)])), (w1, .inl (c1, 12288, .inl (fun z => zx ((fun _ => 0) z)))), (w2, .inl (c2, 1024, .inl (fun z => zx ((fun _ => 0) z)))), (w3, .inl (c3, 16, .inl (fun z => zx ((fun _ => 0) z))))] := hD
      exact W.vret hx hb hr (fun t ht hW => ⟨⟨((fun i => if i = 0 then q0 else if i = 1 then w1 else if i = 2 then w2 else w3), (fun i => if i = 1 then c1 else if i = 2 then c2 else c3)), rfl, trivial, rfl, by rw [ht]; exact hP.sub [0, 1, 2, 3] rfl, va_K.moved hW.alike (hK.sub [0, 1, 2] rfl), hD.sub [0, 1, 2, 3] (by decide) rfl⟩, hS.F ht⟩) hS.2.2 d_M_init_52 hlk
