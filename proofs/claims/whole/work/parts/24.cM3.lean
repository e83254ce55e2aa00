theorem met_i {σ : Type} {l : Launch} {y : MethodName} {ws : List Cond} {rm : Room} {Pc : Array Value → State → Prop} {B : σ → State → Prop} {A : Nat → Prop} {p1 p2 : Int32 → σ → Prop} (h : Met l y ws rm Pc (va_Qi p1 B A) 0 0 A) (hp : ∀ r v, p1 r v → p2 r v) : Met l y ws rm Pc (va_Qi p2 B A) 0 0 A := by
  intro p e ha hc hk s m args below hf hfit hpre hT
  obtain ⟨t, o, h1, h2, h3, h4, h5⟩ := h p e ha hc hk s m args below hf hfit hpre hT
  refine ⟨t, o, h1, h2, h3, ?_, h5⟩
  obtain ⟨⟨r, v, g1, g2, g3⟩, g4⟩ := h4
  exact ⟨⟨r, v, g1, hp r v g2, g3⟩, g4⟩
theorem le_in2 {x : Int32} (h1 : ¬ x < 0) (h2 : x ≤ nI 1) : inR x 2 := by
  obtain ⟨j, hj, rfl⟩ := le_1 h1 h2
  exact inR_nI (by decide) hj
abbrev w_M_badEntries : List Cond := .code y_M_badEntries b_M_badEntries 10 (some .boolean) :: ALL
abbrev rm_M_badEntries : Room := { frames := 2, cells := 0, slots := 0, locals := 46 }
theorem hd_M_badEntries : y_M_badEntries.cls = R_M ∧ y_M_badEntries.cls ≠ "java/lang/invoke/MethodHandle" ∧ y_M_badEntries.cls ≠ "java/lang/invoke/VarHandle" ∧ (parseMethodDescriptor y_M_badEntries.desc).map (fun d => d.parameters.length) = some 1 := by decide +kernel
set_option maxHeartbeats 4000000 in
set_option maxRecDepth 100000 in
theorem c_M_badEntries (l : Launch) (D : va_G) (k : Nat → Nat) (cI : Nat → ClassId) (n : Nat) (A : Nat → Prop) (hn : 12 ≤ n) (hn2 : n ≤ 24) (d t mk : Nat → BitVec 8) (b : Nat) (hb8 : b + 1024 ≤ 12288) : Met l y_M_badEntries w_M_badEntries rm_M_badEntries (va_Pc [.ref (k 0), .int (nI (b))] (mB D k cI n A (mU d t mk))) (va_Qi (fun r v => r = bI (¬ enR n d b) ∧ v = mU d t mk) (mB D k cI n A) A) 0 0 A := by
  refine g_ofW (cc := b_M_badEntries) (maxL := 10) (ret := (some .boolean)) (by decide) rfl (Nat.le_of_ble_eq_true rfl) ?_
  intro p e s m below meth c ls hx hb hml hr hlk hown hts hnm hB hl
  have hown : s.vm.findClass R_M = some m.cls := hown
  have hP := hB.1
  have hK := hB.2.1
  obtain ⟨H, hH⟩ : ∃ H, H = s.heap := ⟨_, rfl⟩
  have hS : va_S A s.heap H [] := by rw [hH]; exact va_S.rf
  rw [← hH] at hP ⊢
  have hl : lv_has ls 10 [(0, .ref (k 0)), (1, .int (nI (b)))] := hl
  have z1 : mSz 1 = 12288 := rfl
  have z2 : mSz 2 = 1024 := rfl
  have z3 : mSz 3 = 16 := rfl
  refine lv_iconst (v := nI 0) hx hb d_M_badEntries_0 rfl ?_
  refine lv_istore_n (lv' := [(2, .int (nI (0))), (0, .ref (k 0)), (1, .int (nI (b)))]) hx hb d_M_badEntries_1 rfl hl (by decide) rfl (fun ls hl => ?_)
  refine lv_iconst (v := nI 0) hx hb d_M_badEntries_2 rfl ?_
  refine lv_istore_n (lv' := [(3, .int (nI (0))), (2, .int (nI (0))), (0, .ref (k 0)), (1, .int (nI (b)))]) hx hb d_M_badEntries_3 rfl hl (by decide) rfl (fun ls hl => ?_)
  have lp : ∀ (q : Nat) (i : Nat) (x : Int32) (H : Heap) (locs : List Loc) (ls : Array Slot), (i ≤ 8) → (8 + 1 ≤ i + q) → (x = bI (∃ p, p < i ∧ bdQ n d b p)) → va_P D classes (mW k cI n (mU (d) (t) (mk))) H → va_S A s.heap H locs → lv_has ls 10 [(3, .int (nI (i))), (2, .int (x)), (0, .ref (k 0)), (1, .int (nI (b)))] → W p l e rm_M_badEntries s m ([.ref (k 0), .int (nI (b))] : List Value).toArray below meth c H locs 0 0 (MQ below (va_Qi (fun r v => r = bI (¬ enR n d b) ∧ v = mU d t mk) (mB D k cI n A) A) ([.ref (k 0), .int (nI (b))] : List Value).toArray s 0 0 A) (F0 m 4 ls []) := by
    intro q
    induction q with
    | zero =>
      intro i x H locs ls hi hq hv hP hS hl
      exact absurd hq (by omega)
    | succ q ih =>
      intro i x H locs ls hi hq hv hP hS hl
      refine lv_iload_n hx hb d_M_badEntries_4 rfl (lv_at hl 0 rfl) ?_
      refine lv_bipush (v := nI 8) hx hb d_M_badEntries_5 rfl ?_
      refine lv_icmp_ge (tgt := 230) hx hb d_M_badEntries_7 (by decide) (fun c_7 => ?_) (fun c_7 => ?_)
      · have hik : i = 8 := ge_t hi (by omega) c_7
        refine lv_iload_n hx hb d_M_badEntries_230 rfl (lv_at hl 1 rfl) ?_
        exact g_zret (v := (x)) hx hb hr (by rw [hv]; exact bI_n _) hlk mW_w mX_x hB hP hS (⟨by rw [hv, hik]; exact bI_c (bad_iff n d b), rfl⟩) d_M_badEntries_231
      · have hik : i < 8 := ge_f (by omega) (by omega) c_7
        have lp2 : ∀ (q2 : Nat) (j : Nat) (y : Int32) (H : Heap) (locs : List Loc) (ls : Array Slot), (j ≤ i) → (i + 1 ≤ j + q2) → (¬ isZ d (b + i * 128) 16) → (y = bI ((∃ p, p < i ∧ bdQ n d b p) ∨ ¬ usa n (num d (b + i * 128 + 32) 8) (num d (b + i * 128 + 40) 8) ∨ ∃ p, p < j ∧ bpQ d b i p)) → va_P D classes (mW k cI n (mU (d) (t) (mk))) H → va_S A s.heap H locs → lv_has ls 10 [(6, .int (nI (j))), (2, .int (y)), (0, .ref (k 0)), (1, .int (nI (b))), (3, .int (nI (i))), (4, .int (nI (b + (i * 128)))), (5, .int (nI (1)))] → W p l e rm_M_badEntries s m ([.ref (k 0), .int (nI (b))] : List Value).toArray below meth c H locs 0 0 (MQ below (va_Qi (fun r v => r = bI (¬ enR n d b) ∧ v = mU d t mk) (mB D k cI n A) A) ([.ref (k 0), .int (nI (b))] : List Value).toArray s 0 0 A) (F0 m 81 ls []) := by
          intro q2
          induction q2 with
          | zero =>
            intro j y H locs ls hj hq hnf hv2 hP hS hl
            exact absurd hq (by omega)
          | succ q2 ih2 =>
            intro j y H locs ls hj hq hnf hv2 hP hS hl
            refine lv_iload hx hb d_M_badEntries_81 (lv_at hl 0 rfl) ?_
            refine lv_iload_n hx hb d_M_badEntries_83 rfl (lv_at hl 4 rfl) ?_
            refine lv_icmp_ge (tgt := 224) hx hb d_M_badEntries_84 (by decide) (fun c_84 => ?_) (fun c_84 => ?_)
            · have hji : j = i := ge_t hj (by omega) c_84
              refine lv_iinc (v := (nI (i + 1))) (lv' := [(3, .int (nI (i + 1))), (6, .int (nI (j))), (2, .int (y)), (0, .ref (k 0)), (1, .int (nI (b))), (4, .int (nI (b + (i * 128)))), (5, .int (nI (1)))]) hx hb d_M_badEntries_224 hl (k := 4) rfl (nI_add _ _) (by decide) rfl (fun ls hl => ?_)
              refine lv_goto (tgt := 4) hx hb d_M_badEntries_227 (by decide) ?_
              exact ih (i + 1) _ _ _ _ (by omega) (by omega) (by rw [hv2, hji]; exact bI_c ⟨fun z => exS.mpr (z.imp id (fun z => ⟨hnf, z⟩)), fun z => (exS.mp z).imp id (fun z => z.2)⟩) hP hS (lv_sub hl [0, 2, 3, 4] rfl)
            · have hji : j < i := ge_f (by omega) (by omega) c_84
              refine lv_iload hx hb d_M_badEntries_87 (lv_at hl 6 rfl) ?_
              refine lv_if_eq (tgt := 224) hx hb d_M_badEntries_89 (by decide) (fun c9 => absurd c9 (by decide)) (fun _ => ?_)
              refine lv_iload_n hx hb d_M_badEntries_92 rfl (lv_at hl 3 rfl) ?_
              refine lv_sipush (v := nI 128) hx hb d_M_badEntries_93 rfl ?_
              refine lv_iload hx hb d_M_badEntries_96 (lv_at hl 0 rfl) ?_
              refine lv_imulC hx hb d_M_badEntries_98 ?_
              refine lv_iaddN hx hb d_M_badEntries_99 ?_
              refine lv_istore (lv' := [(7, .int (nI (b + (j * 128)))), (6, .int (nI (j))), (2, .int (y)), (0, .ref (k 0)), (1, .int (nI (b))), (3, .int (nI (i))), (4, .int (nI (b + (i * 128)))), (5, .int (nI (1)))]) hx hb d_M_badEntries_100 hl (by decide) rfl (fun ls hl => ?_)
              refine lv_aload_n hx hb d_M_badEntries_102 rfl (lv_at hl 3 rfl) ?_
              refine va_get (D := D) (ci := 3) (v := .ref (k 1)) (C := R_M) (T := F_M) (N := 4) hx hb hts (fun w h => .tail _ (fi_M w h)) hown hK hP 0 rfl rfl 1 (by decide) (hts _ (.tail _ m_405)) (fun _ h9 => h9) rfl d_M_badEntries_103 ?_
              refine lv_iload hx hb d_M_badEntries_106 (lv_at hl 0 rfl) ?_
              refine g_callSi (As := [.ref (k 1), .int (nI (b + (j * 128)))]) (rest := []) ⟨hx, hb, hml, hown, hts⟩ (index := 63) (c_M_isFree l D k cI n A hn hn2 (mU (d) (t) (mk)) (1) (by omega) (by omega) (b + (j * 128)) (by omega)) (cwS 2 hts (gd_S m_485 m_486 m_33 m_487) rfl rfl rfl hd_M_isFree ⟨Nat.le_of_ble_eq_true rfl, Nat.le_of_ble_eq_true rfl⟩) mW_w mX_x hB hP hS rfl hl.1 rfl (Nat.le_of_ble_eq_true rfl) d_M_badEntries_108 ⟨Nat.zero_le _, Nat.zero_le _⟩ (fun r_ v_ H locs hw hP hS => ?_)
              obtain ⟨hw1, hw2⟩ := hw; have hw1 : r_ = (bI (isZ (d) (b + (j * 128)) 16)) := hw1; have hw1 := hw1.symm; have hw2 := hw2.symm; subst hw1; subst hw2
              refine lv_if_ne (tgt := 118) hx hb d_M_badEntries_111 (by decide) (fun c_111 => ?_) (fun c_111 => ?_)
              · have c_111 := bI_1 c_111
                refine lv_iconst (v := nI 0) hx hb d_M_badEntries_118 rfl ?_
                refine lv_istore (lv' := [(8, .int (nI (0))), (7, .int (nI (b + (j * 128)))), (6, .int (nI (j))), (2, .int (y)), (0, .ref (k 0)), (1, .int (nI (b))), (3, .int (nI (i))), (4, .int (nI (b + (i * 128)))), (5, .int (nI (1)))]) hx hb d_M_badEntries_119 hl (by decide) rfl (fun ls hl => ?_)
                refine lv_aload_n hx hb d_M_badEntries_121 rfl (lv_at hl 4 rfl) ?_
                refine va_get (D := D) (ci := 3) (v := .ref (k 1)) (C := R_M) (T := F_M) (N := 4) hx hb hts (fun w h => .tail _ (fi_M w h)) hown hK hP 0 rfl rfl 1 (by decide) (hts _ (.tail _ m_405)) (fun _ h9 => h9) rfl d_M_badEntries_122 ?_
                refine lv_iload hx hb d_M_badEntries_125 (lv_at hl 7 rfl) ?_
                refine g_callSl (As := [.ref (k 1), .int (nI (b + (i * 128)))]) (rest := []) ⟨hx, hb, hml, hown, hts⟩ (index := 67) (c_M_first l D k cI n A hn hn2 (mU (d) (t) (mk)) (1) (by omega) (by omega) (b + (i * 128)) (by omega)) (cwS 2 hts (gd_S m_491 m_492 m_33 m_493) rfl rfl rfl hd_M_first ⟨Nat.le_of_ble_eq_true rfl, Nat.le_of_ble_eq_true rfl⟩) mW_w mX_x hB hP hS rfl hl.1 rfl (Nat.le_of_ble_eq_true rfl) d_M_badEntries_127 ⟨Nat.zero_le _, Nat.zero_le _⟩ (fun r_ v_ H locs hw hP hS => ?_)
                obtain ⟨hw1, hw2⟩ := hw; have hw1 : r_ = (num (d) ((b + (i * 128)) + 32) 8) := hw1; have hw1 := hw1.symm; have hw2 := hw2.symm; subst hw1; subst hw2
                refine lv_aload_n hx hb d_M_badEntries_130 rfl (lv_at hl 4 rfl) ?_
                refine va_get (D := D) (ci := 3) (v := .ref (k 1)) (C := R_M) (T := F_M) (N := 4) hx hb hts (fun w h => .tail _ (fi_M w h)) hown hK hP 0 rfl rfl 1 (by decide) (hts _ (.tail _ m_405)) (fun _ h9 => h9) rfl d_M_badEntries_131 ?_
                refine lv_iload hx hb d_M_badEntries_134 (lv_at hl 1 rfl) ?_
                refine g_callSl (As := [.ref (k 1), .int (nI (b + (j * 128)))]) (rest := [.long (num (d) ((b + (i * 128)) + 32) 8)]) ⟨hx, hb, hml, hown, hts⟩ (index := 71) (c_M_last l D k cI n A hn hn2 (mU (d) (t) (mk)) (1) (by omega) (by omega) (b + (j * 128)) (by omega)) (cwS 2 hts (gd_S m_494 m_495 m_33 m_496) rfl rfl rfl hd_M_last ⟨Nat.le_of_ble_eq_true rfl, Nat.le_of_ble_eq_true rfl⟩) mW_w mX_x hB hP hS rfl hl.1 rfl (Nat.le_of_ble_eq_true rfl) d_M_badEntries_136 ⟨Nat.zero_le _, Nat.zero_le _⟩ (fun r_ v_ H locs hw hP hS => ?_)
                obtain ⟨hw1, hw2⟩ := hw; have hw1 : r_ = (num (d) ((b + (j * 128)) + 40) 8) := hw1; have hw1 := hw1.symm; have hw2 := hw2.symm; subst hw1; subst hw2
                refine W.lcmp hx hb d_M_badEntries_139 ?_
                refine lv_if_gt (tgt := 169) hx hb d_M_badEntries_140 (by decide) (fun c_140 => ?_) (fun c_140 => ?_)
                · have c_140 := (lg_cmp_gt _ _).mp c_140
                  refine lv_iconst (v := nI 0) hx hb d_M_badEntries_169 rfl ?_
                  refine lv_istore (lv' := [(9, .int (nI (0))), (8, .int (nI (0))), (7, .int (nI (b + (j * 128)))), (6, .int (nI (j))), (2, .int (y)), (0, .ref (k 0)), (1, .int (nI (b))), (3, .int (nI (i))), (4, .int (nI (b + (i * 128)))), (5, .int (nI (1)))]) hx hb d_M_badEntries_170 hl (by decide) rfl (fun ls hl => ?_)
                  refine lv_iload_n hx hb d_M_badEntries_172 rfl (lv_at hl 4 rfl) ?_
                  refine lv_if_ne (tgt := 212) hx hb d_M_badEntries_173 (by decide) (fun c_173 => ?_) (fun c_173 => ?_)
                  · refine lv_iconst (v := nI 1) hx hb d_M_badEntries_212 rfl ?_
                    refine lv_goto (tgt := 217) hx hb d_M_badEntries_213 (by decide) ?_
                    refine lv_istore_n (lv' := [(2, .int (nI (1))), (9, .int (nI (0))), (8, .int (nI (0))), (7, .int (nI (b + (j * 128)))), (6, .int (nI (j))), (0, .ref (k 0)), (1, .int (nI (b))), (3, .int (nI (i))), (4, .int (nI (b + (i * 128)))), (5, .int (nI (1)))]) hx hb d_M_badEntries_217 rfl hl (by decide) rfl (fun ls hl => ?_)
                    refine lv_iinc (v := (nI (j + 1))) (lv' := [(6, .int (nI (j + 1))), (2, .int (nI (1))), (9, .int (nI (0))), (8, .int (nI (0))), (7, .int (nI (b + (j * 128)))), (0, .ref (k 0)), (1, .int (nI (b))), (3, .int (nI (i))), (4, .int (nI (b + (i * 128)))), (5, .int (nI (1)))]) hx hb d_M_badEntries_218 hl (k := 4) rfl (nI_add _ _) (by decide) rfl (fun ls hl => ?_)
                    refine lv_goto (tgt := 81) hx hb d_M_badEntries_221 (by decide) ?_
                    exact ih2 (j + 1) _ _ _ _ (by omega) (by omega) hnf (bI_t ((bI_y hv2 c_173).imp id (fun z => z.imp id (fun w => exS.mpr (Or.inl w))))).symm hP hS (lv_sub hl [0, 1, 5, 6, 7, 8, 9] rfl)
                  · refine lv_iload hx hb d_M_badEntries_176 (lv_at hl 1 rfl) ?_
                    refine lv_if_eq (tgt := 216) hx hb d_M_badEntries_178 (by decide) (fun _ => ?_) (fun c9 => absurd (by decide) c9)
                    refine lv_iconst (v := nI 0) hx hb d_M_badEntries_216 rfl ?_
                    refine lv_istore_n (lv' := [(2, .int (nI (0))), (9, .int (nI (0))), (8, .int (nI (0))), (7, .int (nI (b + (j * 128)))), (6, .int (nI (j))), (0, .ref (k 0)), (1, .int (nI (b))), (3, .int (nI (i))), (4, .int (nI (b + (i * 128)))), (5, .int (nI (1)))]) hx hb d_M_badEntries_217 rfl hl (by decide) rfl (fun ls hl => ?_)
                    refine lv_iinc (v := (nI (j + 1))) (lv' := [(6, .int (nI (j + 1))), (2, .int (nI (0))), (9, .int (nI (0))), (8, .int (nI (0))), (7, .int (nI (b + (j * 128)))), (0, .ref (k 0)), (1, .int (nI (b))), (3, .int (nI (i))), (4, .int (nI (b + (i * 128)))), (5, .int (nI (1)))]) hx hb d_M_badEntries_218 hl (k := 4) rfl (nI_add _ _) (by decide) rfl (fun ls hl => ?_)
                    refine lv_goto (tgt := 81) hx hb d_M_badEntries_221 (by decide) ?_
                    exact ih2 (j + 1) _ _ _ _ (by omega) (by omega) hnf (bI_f (fun z => z.elim (fun z => bI_x hv2 c_173 (Or.inl z)) (fun z => z.elim (fun z => bI_x hv2 c_173 (Or.inr (Or.inl z))) (fun z => (exS.mp z).elim (fun z => bI_x hv2 c_173 (Or.inr (Or.inr z))) (fun w => w.1 c_111))))).symm hP hS (lv_sub hl [0, 1, 5, 6, 7, 8, 9] rfl)
                · have c_140 := fun z => c_140 ((lg_cmp_gt _ _).mpr z)
                  refine lv_aload_n hx hb d_M_badEntries_143 rfl (lv_at hl 4 rfl) ?_
                  refine va_get (D := D) (ci := 3) (v := .ref (k 1)) (C := R_M) (T := F_M) (N := 4) hx hb hts (fun w h => .tail _ (fi_M w h)) hown hK hP 0 rfl rfl 1 (by decide) (hts _ (.tail _ m_405)) (fun _ h9 => h9) rfl d_M_badEntries_144 ?_
                  refine lv_iload hx hb d_M_badEntries_147 (lv_at hl 1 rfl) ?_
                  refine g_callSl (As := [.ref (k 1), .int (nI (b + (j * 128)))]) (rest := []) ⟨hx, hb, hml, hown, hts⟩ (index := 67) (c_M_first l D k cI n A hn hn2 (mU (d) (t) (mk)) (1) (by omega) (by omega) (b + (j * 128)) (by omega)) (cwS 2 hts (gd_S m_491 m_492 m_33 m_493) rfl rfl rfl hd_M_first ⟨Nat.le_of_ble_eq_true rfl, Nat.le_of_ble_eq_true rfl⟩) mW_w mX_x hB hP hS rfl hl.1 rfl (Nat.le_of_ble_eq_true rfl) d_M_badEntries_149 ⟨Nat.zero_le _, Nat.zero_le _⟩ (fun r_ v_ H locs hw hP hS => ?_)
                  obtain ⟨hw1, hw2⟩ := hw; have hw1 : r_ = (num (d) ((b + (j * 128)) + 32) 8) := hw1; have hw1 := hw1.symm; have hw2 := hw2.symm; subst hw1; subst hw2
                  refine lv_aload_n hx hb d_M_badEntries_152 rfl (lv_at hl 4 rfl) ?_
                  refine va_get (D := D) (ci := 3) (v := .ref (k 1)) (C := R_M) (T := F_M) (N := 4) hx hb hts (fun w h => .tail _ (fi_M w h)) hown hK hP 0 rfl rfl 1 (by decide) (hts _ (.tail _ m_405)) (fun _ h9 => h9) rfl d_M_badEntries_153 ?_
                  refine lv_iload hx hb d_M_badEntries_156 (lv_at hl 7 rfl) ?_
                  refine g_callSl (As := [.ref (k 1), .int (nI (b + (i * 128)))]) (rest := [.long (num (d) ((b + (j * 128)) + 32) 8)]) ⟨hx, hb, hml, hown, hts⟩ (index := 71) (c_M_last l D k cI n A hn hn2 (mU (d) (t) (mk)) (1) (by omega) (by omega) (b + (i * 128)) (by omega)) (cwS 2 hts (gd_S m_494 m_495 m_33 m_496) rfl rfl rfl hd_M_last ⟨Nat.le_of_ble_eq_true rfl, Nat.le_of_ble_eq_true rfl⟩) mW_w mX_x hB hP hS rfl hl.1 rfl (Nat.le_of_ble_eq_true rfl) d_M_badEntries_158 ⟨Nat.zero_le _, Nat.zero_le _⟩ (fun r_ v_ H locs hw hP hS => ?_)
                  obtain ⟨hw1, hw2⟩ := hw; have hw1 : r_ = (num (d) ((b + (i * 128)) + 40) 8) := hw1; have hw1 := hw1.symm; have hw2 := hw2.symm; subst hw1; subst hw2
                  refine W.lcmp hx hb d_M_badEntries_161 ?_
                  refine lv_if_gt (tgt := 169) hx hb d_M_badEntries_162 (by decide) (fun c_162 => ?_) (fun c_162 => ?_)
                  · have c_162 := (lg_cmp_gt _ _).mp c_162
                    refine lv_iconst (v := nI 0) hx hb d_M_badEntries_169 rfl ?_
                    refine lv_istore (lv' := [(9, .int (nI (0))), (8, .int (nI (0))), (7, .int (nI (b + (j * 128)))), (6, .int (nI (j))), (2, .int (y)), (0, .ref (k 0)), (1, .int (nI (b))), (3, .int (nI (i))), (4, .int (nI (b + (i * 128)))), (5, .int (nI (1)))]) hx hb d_M_badEntries_170 hl (by decide) rfl (fun ls hl => ?_)
                    refine lv_iload_n hx hb d_M_badEntries_172 rfl (lv_at hl 4 rfl) ?_
                    refine lv_if_ne (tgt := 212) hx hb d_M_badEntries_173 (by decide) (fun c_173 => ?_) (fun c_173 => ?_)
                    · refine lv_iconst (v := nI 1) hx hb d_M_badEntries_212 rfl ?_
                      refine lv_goto (tgt := 217) hx hb d_M_badEntries_213 (by decide) ?_
                      refine lv_istore_n (lv' := [(2, .int (nI (1))), (9, .int (nI (0))), (8, .int (nI (0))), (7, .int (nI (b + (j * 128)))), (6, .int (nI (j))), (0, .ref (k 0)), (1, .int (nI (b))), (3, .int (nI (i))), (4, .int (nI (b + (i * 128)))), (5, .int (nI (1)))]) hx hb d_M_badEntries_217 rfl hl (by decide) rfl (fun ls hl => ?_)
                      refine lv_iinc (v := (nI (j + 1))) (lv' := [(6, .int (nI (j + 1))), (2, .int (nI (1))), (9, .int (nI (0))), (8, .int (nI (0))), (7, .int (nI (b + (j * 128)))), (0, .ref (k 0)), (1, .int (nI (b))), (3, .int (nI (i))), (4, .int (nI (b + (i * 128)))), (5, .int (nI (1)))]) hx hb d_M_badEntries_218 hl (k := 4) rfl (nI_add _ _) (by decide) rfl (fun ls hl => ?_)
                      refine lv_goto (tgt := 81) hx hb d_M_badEntries_221 (by decide) ?_
                      exact ih2 (j + 1) _ _ _ _ (by omega) (by omega) hnf (bI_t ((bI_y hv2 c_173).imp id (fun z => z.imp id (fun w => exS.mpr (Or.inl w))))).symm hP hS (lv_sub hl [0, 1, 5, 6, 7, 8, 9] rfl)
                    · refine lv_iload hx hb d_M_badEntries_176 (lv_at hl 1 rfl) ?_
                      refine lv_if_eq (tgt := 216) hx hb d_M_badEntries_178 (by decide) (fun _ => ?_) (fun c9 => absurd (by decide) c9)
                      refine lv_iconst (v := nI 0) hx hb d_M_badEntries_216 rfl ?_
                      refine lv_istore_n (lv' := [(2, .int (nI (0))), (9, .int (nI (0))), (8, .int (nI (0))), (7, .int (nI (b + (j * 128)))), (6, .int (nI (j))), (0, .ref (k 0)), (1, .int (nI (b))), (3, .int (nI (i))), (4, .int (nI (b + (i * 128)))), (5, .int (nI (1)))]) hx hb d_M_badEntries_217 rfl hl (by decide) rfl (fun ls hl => ?_)
                      refine lv_iinc (v := (nI (j + 1))) (lv' := [(6, .int (nI (j + 1))), (2, .int (nI (0))), (9, .int (nI (0))), (8, .int (nI (0))), (7, .int (nI (b + (j * 128)))), (0, .ref (k 0)), (1, .int (nI (b))), (3, .int (nI (i))), (4, .int (nI (b + (i * 128)))), (5, .int (nI (1)))]) hx hb d_M_badEntries_218 hl (k := 4) rfl (nI_add _ _) (by decide) rfl (fun ls hl => ?_)
                      refine lv_goto (tgt := 81) hx hb d_M_badEntries_221 (by decide) ?_
                      exact ih2 (j + 1) _ _ _ _ (by omega) (by omega) hnf (bI_f (fun z => z.elim (fun z => bI_x hv2 c_173 (Or.inl z)) (fun z => z.elim (fun z => bI_x hv2 c_173 (Or.inr (Or.inl z))) (fun z => (exS.mp z).elim (fun z => bI_x hv2 c_173 (Or.inr (Or.inr z))) (fun w => w.1 c_111))))).symm hP hS (lv_sub hl [0, 1, 5, 6, 7, 8, 9] rfl)
                  · have c_162 := fun z => c_162 ((lg_cmp_gt _ _).mpr z)
                    refine lv_iconst (v := nI 1) hx hb d_M_badEntries_165 rfl ?_
                    refine lv_goto (tgt := 170) hx hb d_M_badEntries_166 (by decide) ?_
                    refine lv_istore (lv' := [(9, .int (nI (1))), (8, .int (nI (0))), (7, .int (nI (b + (j * 128)))), (6, .int (nI (j))), (2, .int (y)), (0, .ref (k 0)), (1, .int (nI (b))), (3, .int (nI (i))), (4, .int (nI (b + (i * 128)))), (5, .int (nI (1)))]) hx hb d_M_badEntries_170 hl (by decide) rfl (fun ls hl => ?_)
                    refine lv_iload_n hx hb d_M_badEntries_172 rfl (lv_at hl 4 rfl) ?_
                    refine lv_if_ne (tgt := 212) hx hb d_M_badEntries_173 (by decide) (fun c_173 => ?_) (fun c_173 => ?_)
                    · refine lv_iconst (v := nI 1) hx hb d_M_badEntries_212 rfl ?_
                      refine lv_goto (tgt := 217) hx hb d_M_badEntries_213 (by decide) ?_
                      refine lv_istore_n (lv' := [(2, .int (nI (1))), (9, .int (nI (1))), (8, .int (nI (0))), (7, .int (nI (b + (j * 128)))), (6, .int (nI (j))), (0, .ref (k 0)), (1, .int (nI (b))), (3, .int (nI (i))), (4, .int (nI (b + (i * 128)))), (5, .int (nI (1)))]) hx hb d_M_badEntries_217 rfl hl (by decide) rfl (fun ls hl => ?_)
                      refine lv_iinc (v := (nI (j + 1))) (lv' := [(6, .int (nI (j + 1))), (2, .int (nI (1))), (9, .int (nI (1))), (8, .int (nI (0))), (7, .int (nI (b + (j * 128)))), (0, .ref (k 0)), (1, .int (nI (b))), (3, .int (nI (i))), (4, .int (nI (b + (i * 128)))), (5, .int (nI (1)))]) hx hb d_M_badEntries_218 hl (k := 4) rfl (nI_add _ _) (by decide) rfl (fun ls hl => ?_)
                      refine lv_goto (tgt := 81) hx hb d_M_badEntries_221 (by decide) ?_
                      exact ih2 (j + 1) _ _ _ _ (by omega) (by omega) hnf (bI_t ((bI_y hv2 c_173).imp id (fun z => z.imp id (fun w => exS.mpr (Or.inl w))))).symm hP hS (lv_sub hl [0, 1, 5, 6, 7, 8, 9] rfl)
                    · refine lv_iload hx hb d_M_badEntries_176 (lv_at hl 1 rfl) ?_
                      refine lv_if_eq (tgt := 216) hx hb d_M_badEntries_178 (by decide) (fun _ => ?_) (fun c9 => absurd (by decide) c9)
                      refine lv_iconst (v := nI 0) hx hb d_M_badEntries_216 rfl ?_
                      refine lv_istore_n (lv' := [(2, .int (nI (0))), (9, .int (nI (1))), (8, .int (nI (0))), (7, .int (nI (b + (j * 128)))), (6, .int (nI (j))), (0, .ref (k 0)), (1, .int (nI (b))), (3, .int (nI (i))), (4, .int (nI (b + (i * 128)))), (5, .int (nI (1)))]) hx hb d_M_badEntries_217 rfl hl (by decide) rfl (fun ls hl => ?_)
                      refine lv_iinc (v := (nI (j + 1))) (lv' := [(6, .int (nI (j + 1))), (2, .int (nI (0))), (9, .int (nI (1))), (8, .int (nI (0))), (7, .int (nI (b + (j * 128)))), (0, .ref (k 0)), (1, .int (nI (b))), (3, .int (nI (i))), (4, .int (nI (b + (i * 128)))), (5, .int (nI (1)))]) hx hb d_M_badEntries_218 hl (k := 4) rfl (nI_add _ _) (by decide) rfl (fun ls hl => ?_)
                      refine lv_goto (tgt := 81) hx hb d_M_badEntries_221 (by decide) ?_
                      exact ih2 (j + 1) _ _ _ _ (by omega) (by omega) hnf (bI_f (fun z => z.elim (fun z => bI_x hv2 c_173 (Or.inl z)) (fun z => z.elim (fun z => bI_x hv2 c_173 (Or.inr (Or.inl z))) (fun z => (exS.mp z).elim (fun z => bI_x hv2 c_173 (Or.inr (Or.inr z))) (fun w => w.1 c_111))))).symm hP hS (lv_sub hl [0, 1, 5, 6, 7, 8, 9] rfl)
              · have c_111 := bI_0.mp c_111
                refine lv_iconst (v := nI 1) hx hb d_M_badEntries_114 rfl ?_
                refine lv_goto (tgt := 119) hx hb d_M_badEntries_115 (by decide) ?_
                refine lv_istore (lv' := [(8, .int (nI (1))), (7, .int (nI (b + (j * 128)))), (6, .int (nI (j))), (2, .int (y)), (0, .ref (k 0)), (1, .int (nI (b))), (3, .int (nI (i))), (4, .int (nI (b + (i * 128)))), (5, .int (nI (1)))]) hx hb d_M_badEntries_119 hl (by decide) rfl (fun ls hl => ?_)
                refine lv_aload_n hx hb d_M_badEntries_121 rfl (lv_at hl 4 rfl) ?_
                refine va_get (D := D) (ci := 3) (v := .ref (k 1)) (C := R_M) (T := F_M) (N := 4) hx hb hts (fun w h => .tail _ (fi_M w h)) hown hK hP 0 rfl rfl 1 (by decide) (hts _ (.tail _ m_405)) (fun _ h9 => h9) rfl d_M_badEntries_122 ?_
                refine lv_iload hx hb d_M_badEntries_125 (lv_at hl 7 rfl) ?_
                refine g_callSl (As := [.ref (k 1), .int (nI (b + (i * 128)))]) (rest := []) ⟨hx, hb, hml, hown, hts⟩ (index := 67) (c_M_first l D k cI n A hn hn2 (mU (d) (t) (mk)) (1) (by omega) (by omega) (b + (i * 128)) (by omega)) (cwS 2 hts (gd_S m_491 m_492 m_33 m_493) rfl rfl rfl hd_M_first ⟨Nat.le_of_ble_eq_true rfl, Nat.le_of_ble_eq_true rfl⟩) mW_w mX_x hB hP hS rfl hl.1 rfl (Nat.le_of_ble_eq_true rfl) d_M_badEntries_127 ⟨Nat.zero_le _, Nat.zero_le _⟩ (fun r_ v_ H locs hw hP hS => ?_)
                obtain ⟨hw1, hw2⟩ := hw; have hw1 : r_ = (num (d) ((b + (i * 128)) + 32) 8) := hw1; have hw1 := hw1.symm; have hw2 := hw2.symm; subst hw1; subst hw2
                refine lv_aload_n hx hb d_M_badEntries_130 rfl (lv_at hl 4 rfl) ?_
                refine va_get (D := D) (ci := 3) (v := .ref (k 1)) (C := R_M) (T := F_M) (N := 4) hx hb hts (fun w h => .tail _ (fi_M w h)) hown hK hP 0 rfl rfl 1 (by decide) (hts _ (.tail _ m_405)) (fun _ h9 => h9) rfl d_M_badEntries_131 ?_
                refine lv_iload hx hb d_M_badEntries_134 (lv_at hl 1 rfl) ?_
                refine g_callSl (As := [.ref (k 1), .int (nI (b + (j * 128)))]) (rest := [.long (num (d) ((b + (i * 128)) + 32) 8)]) ⟨hx, hb, hml, hown, hts⟩ (index := 71) (c_M_last l D k cI n A hn hn2 (mU (d) (t) (mk)) (1) (by omega) (by omega) (b + (j * 128)) (by omega)) (cwS 2 hts (gd_S m_494 m_495 m_33 m_496) rfl rfl rfl hd_M_last ⟨Nat.le_of_ble_eq_true rfl, Nat.le_of_ble_eq_true rfl⟩) mW_w mX_x hB hP hS rfl hl.1 rfl (Nat.le_of_ble_eq_true rfl) d_M_badEntries_136 ⟨Nat.zero_le _, Nat.zero_le _⟩ (fun r_ v_ H locs hw hP hS => ?_)
                obtain ⟨hw1, hw2⟩ := hw; have hw1 : r_ = (num (d) ((b + (j * 128)) + 40) 8) := hw1; have hw1 := hw1.symm; have hw2 := hw2.symm; subst hw1; subst hw2
                refine W.lcmp hx hb d_M_badEntries_139 ?_
                refine lv_if_gt (tgt := 169) hx hb d_M_badEntries_140 (by decide) (fun c_140 => ?_) (fun c_140 => ?_)
                · have c_140 := (lg_cmp_gt _ _).mp c_140
                  refine lv_iconst (v := nI 0) hx hb d_M_badEntries_169 rfl ?_
                  refine lv_istore (lv' := [(9, .int (nI (0))), (8, .int (nI (1))), (7, .int (nI (b + (j * 128)))), (6, .int (nI (j))), (2, .int (y)), (0, .ref (k 0)), (1, .int (nI (b))), (3, .int (nI (i))), (4, .int (nI (b + (i * 128)))), (5, .int (nI (1)))]) hx hb d_M_badEntries_170 hl (by decide) rfl (fun ls hl => ?_)
                  refine lv_iload_n hx hb d_M_badEntries_172 rfl (lv_at hl 4 rfl) ?_
                  refine lv_if_ne (tgt := 212) hx hb d_M_badEntries_173 (by decide) (fun c_173 => ?_) (fun c_173 => ?_)
                  · refine lv_iconst (v := nI 1) hx hb d_M_badEntries_212 rfl ?_
                    refine lv_goto (tgt := 217) hx hb d_M_badEntries_213 (by decide) ?_
                    refine lv_istore_n (lv' := [(2, .int (nI (1))), (9, .int (nI (0))), (8, .int (nI (1))), (7, .int (nI (b + (j * 128)))), (6, .int (nI (j))), (0, .ref (k 0)), (1, .int (nI (b))), (3, .int (nI (i))), (4, .int (nI (b + (i * 128)))), (5, .int (nI (1)))]) hx hb d_M_badEntries_217 rfl hl (by decide) rfl (fun ls hl => ?_)
                    refine lv_iinc (v := (nI (j + 1))) (lv' := [(6, .int (nI (j + 1))), (2, .int (nI (1))), (9, .int (nI (0))), (8, .int (nI (1))), (7, .int (nI (b + (j * 128)))), (0, .ref (k 0)), (1, .int (nI (b))), (3, .int (nI (i))), (4, .int (nI (b + (i * 128)))), (5, .int (nI (1)))]) hx hb d_M_badEntries_218 hl (k := 4) rfl (nI_add _ _) (by decide) rfl (fun ls hl => ?_)
                    refine lv_goto (tgt := 81) hx hb d_M_badEntries_221 (by decide) ?_
                    exact ih2 (j + 1) _ _ _ _ (by omega) (by omega) hnf (bI_t ((bI_y hv2 c_173).imp id (fun z => z.imp id (fun w => exS.mpr (Or.inl w))))).symm hP hS (lv_sub hl [0, 1, 5, 6, 7, 8, 9] rfl)
                  · refine lv_iload hx hb d_M_badEntries_176 (lv_at hl 1 rfl) ?_
                    refine lv_if_eq (tgt := 216) hx hb d_M_badEntries_178 (by decide) (fun c9 => absurd c9 (by decide)) (fun _ => ?_)
                    refine lv_iload hx hb d_M_badEntries_181 (lv_at hl 0 rfl) ?_
                    refine lv_if_ne (tgt := 212) hx hb d_M_badEntries_183 (by decide) (fun c9 => absurd (by decide) c9) (fun _ => ?_)
                    refine lv_aload_n hx hb d_M_badEntries_186 rfl (lv_at hl 5 rfl) ?_
                    refine va_get (D := D) (ci := 3) (v := .ref (k 1)) (C := R_M) (T := F_M) (N := 4) hx hb hts (fun w h => .tail _ (fi_M w h)) hown hK hP 0 rfl rfl 1 (by decide) (hts _ (.tail _ m_405)) (fun _ h9 => h9) rfl d_M_badEntries_187 ?_
                    refine lv_iload hx hb d_M_badEntries_190 (lv_at hl 8 rfl) ?_
                    refine lv_bipush (v := nI 16) hx hb d_M_badEntries_192 rfl ?_
                    refine lv_iaddN hx hb d_M_badEntries_194 ?_
                    refine lv_aload_n hx hb d_M_badEntries_195 rfl (lv_at hl 5 rfl) ?_
                    refine va_get (D := D) (ci := 3) (v := .ref (k 1)) (C := R_M) (T := F_M) (N := 4) hx hb hts (fun w h => .tail _ (fi_M w h)) hown hK hP 0 rfl rfl 1 (by decide) (hts _ (.tail _ m_405)) (fun _ h9 => h9) rfl d_M_badEntries_196 ?_
                    refine lv_iload hx hb d_M_badEntries_199 (lv_at hl 2 rfl) ?_
                    refine lv_bipush (v := nI 16) hx hb d_M_badEntries_201 rfl ?_
                    refine lv_iaddN hx hb d_M_badEntries_203 ?_
                    refine lv_bipush (v := nI 16) hx hb d_M_badEntries_204 rfl ?_
                    refine g_callSi (As := [.ref (k 1), .int (nI ((b + (i * 128)) + 16)), .ref (k 1), .int (nI ((b + (j * 128)) + 16)), .int (nI (16))]) (rest := []) ⟨hx, hb, hml, hown, hts⟩ (index := 78) (c_M_same l D k cI n A hn hn2 (mU (d) (t) (mk)) (1) (by omega) (by omega) (1) (by omega) (by omega) ((b + (i * 128)) + 16) ((b + (j * 128)) + 16) (16) (by omega) (by omega)) (cwS 5 hts (gd_S m_501 m_502 m_33 m_503) rfl rfl rfl hd_M_same ⟨Nat.le_of_ble_eq_true rfl, Nat.le_of_ble_eq_true rfl⟩) mW_w mX_x hB hP hS rfl hl.1 rfl (Nat.le_of_ble_eq_true rfl) d_M_badEntries_206 ⟨Nat.zero_le _, Nat.zero_le _⟩ (fun r_ v_ H locs hw hP hS => ?_)
                    obtain ⟨hw1, hw2⟩ := hw; have hw1 : r_ = (bI (alk (d) (d) ((b + (i * 128)) + 16) ((b + (j * 128)) + 16) 16)) := hw1; have hw1 := hw1.symm; have hw2 := hw2.symm; subst hw1; subst hw2
                    refine lv_if_eq (tgt := 216) hx hb d_M_badEntries_209 (by decide) (fun c_209 => ?_) (fun c_209 => ?_)
                    · have c_209 := bI_0.mp c_209
                      refine lv_iconst (v := nI 0) hx hb d_M_badEntries_216 rfl ?_
                      refine lv_istore_n (lv' := [(2, .int (nI (0))), (9, .int (nI (0))), (8, .int (nI (1))), (7, .int (nI (b + (j * 128)))), (6, .int (nI (j))), (0, .ref (k 0)), (1, .int (nI (b))), (3, .int (nI (i))), (4, .int (nI (b + (i * 128)))), (5, .int (nI (1)))]) hx hb d_M_badEntries_217 rfl hl (by decide) rfl (fun ls hl => ?_)
                      refine lv_iinc (v := (nI (j + 1))) (lv' := [(6, .int (nI (j + 1))), (2, .int (nI (0))), (9, .int (nI (0))), (8, .int (nI (1))), (7, .int (nI (b + (j * 128)))), (0, .ref (k 0)), (1, .int (nI (b))), (3, .int (nI (i))), (4, .int (nI (b + (i * 128)))), (5, .int (nI (1)))]) hx hb d_M_badEntries_218 hl (k := 4) rfl (nI_add _ _) (by decide) rfl (fun ls hl => ?_)
                      refine lv_goto (tgt := 81) hx hb d_M_badEntries_221 (by decide) ?_
                      exact ih2 (j + 1) _ _ _ _ (by omega) (by omega) hnf (bI_f (fun z => z.elim (fun z => bI_x hv2 c_173 (Or.inl z)) (fun z => z.elim (fun z => bI_x hv2 c_173 (Or.inr (Or.inl z))) (fun z => (exS.mp z).elim (fun z => bI_x hv2 c_173 (Or.inr (Or.inr z))) (fun w => w.2.elim (fun q => q.1 c_140) c_209))))).symm hP hS (lv_sub hl [0, 1, 5, 6, 7, 8, 9] rfl)
                    · have c_209 := bI_1 c_209
                      refine lv_iconst (v := nI 1) hx hb d_M_badEntries_212 rfl ?_
                      refine lv_goto (tgt := 217) hx hb d_M_badEntries_213 (by decide) ?_
                      refine lv_istore_n (lv' := [(2, .int (nI (1))), (9, .int (nI (0))), (8, .int (nI (1))), (7, .int (nI (b + (j * 128)))), (6, .int (nI (j))), (0, .ref (k 0)), (1, .int (nI (b))), (3, .int (nI (i))), (4, .int (nI (b + (i * 128)))), (5, .int (nI (1)))]) hx hb d_M_badEntries_217 rfl hl (by decide) rfl (fun ls hl => ?_)
                      refine lv_iinc (v := (nI (j + 1))) (lv' := [(6, .int (nI (j + 1))), (2, .int (nI (1))), (9, .int (nI (0))), (8, .int (nI (1))), (7, .int (nI (b + (j * 128)))), (0, .ref (k 0)), (1, .int (nI (b))), (3, .int (nI (i))), (4, .int (nI (b + (i * 128)))), (5, .int (nI (1)))]) hx hb d_M_badEntries_218 hl (k := 4) rfl (nI_add _ _) (by decide) rfl (fun ls hl => ?_)
                      refine lv_goto (tgt := 81) hx hb d_M_badEntries_221 (by decide) ?_
                      exact ih2 (j + 1) _ _ _ _ (by omega) (by omega) hnf (bI_t (Or.inr (Or.inr (exS.mpr (Or.inr ⟨c_111, Or.inr c_209⟩))))).symm hP hS (lv_sub hl [0, 1, 5, 6, 7, 8, 9] rfl)
                · have c_140 := fun z => c_140 ((lg_cmp_gt _ _).mpr z)
                  refine lv_aload_n hx hb d_M_badEntries_143 rfl (lv_at hl 4 rfl) ?_
                  refine va_get (D := D) (ci := 3) (v := .ref (k 1)) (C := R_M) (T := F_M) (N := 4) hx hb hts (fun w h => .tail _ (fi_M w h)) hown hK hP 0 rfl rfl 1 (by decide) (hts _ (.tail _ m_405)) (fun _ h9 => h9) rfl d_M_badEntries_144 ?_
                  refine lv_iload hx hb d_M_badEntries_147 (lv_at hl 1 rfl) ?_
                  refine g_callSl (As := [.ref (k 1), .int (nI (b + (j * 128)))]) (rest := []) ⟨hx, hb, hml, hown, hts⟩ (index := 67) (c_M_first l D k cI n A hn hn2 (mU (d) (t) (mk)) (1) (by omega) (by omega) (b + (j * 128)) (by omega)) (cwS 2 hts (gd_S m_491 m_492 m_33 m_493) rfl rfl rfl hd_M_first ⟨Nat.le_of_ble_eq_true rfl, Nat.le_of_ble_eq_true rfl⟩) mW_w mX_x hB hP hS rfl hl.1 rfl (Nat.le_of_ble_eq_true rfl) d_M_badEntries_149 ⟨Nat.zero_le _, Nat.zero_le _⟩ (fun r_ v_ H locs hw hP hS => ?_)
                  obtain ⟨hw1, hw2⟩ := hw; have hw1 : r_ = (num (d) ((b + (j * 128)) + 32) 8) := hw1; have hw1 := hw1.symm; have hw2 := hw2.symm; subst hw1; subst hw2
                  refine lv_aload_n hx hb d_M_badEntries_152 rfl (lv_at hl 4 rfl) ?_
                  refine va_get (D := D) (ci := 3) (v := .ref (k 1)) (C := R_M) (T := F_M) (N := 4) hx hb hts (fun w h => .tail _ (fi_M w h)) hown hK hP 0 rfl rfl 1 (by decide) (hts _ (.tail _ m_405)) (fun _ h9 => h9) rfl d_M_badEntries_153 ?_
                  refine lv_iload hx hb d_M_badEntries_156 (lv_at hl 7 rfl) ?_
                  refine g_callSl (As := [.ref (k 1), .int (nI (b + (i * 128)))]) (rest := [.long (num (d) ((b + (j * 128)) + 32) 8)]) ⟨hx, hb, hml, hown, hts⟩ (index := 71) (c_M_last l D k cI n A hn hn2 (mU (d) (t) (mk)) (1) (by omega) (by omega) (b + (i * 128)) (by omega)) (cwS 2 hts (gd_S m_494 m_495 m_33 m_496) rfl rfl rfl hd_M_last ⟨Nat.le_of_ble_eq_true rfl, Nat.le_of_ble_eq_true rfl⟩) mW_w mX_x hB hP hS rfl hl.1 rfl (Nat.le_of_ble_eq_true rfl) d_M_badEntries_158 ⟨Nat.zero_le _, Nat.zero_le _⟩ (fun r_ v_ H locs hw hP hS => ?_)
                  obtain ⟨hw1, hw2⟩ := hw; have hw1 : r_ = (num (d) ((b + (i * 128)) + 40) 8) := hw1; have hw1 := hw1.symm; have hw2 := hw2.symm; subst hw1; subst hw2
                  refine W.lcmp hx hb d_M_badEntries_161 ?_
                  refine lv_if_gt (tgt := 169) hx hb d_M_badEntries_162 (by decide) (fun c_162 => ?_) (fun c_162 => ?_)
                  · have c_162 := (lg_cmp_gt _ _).mp c_162
                    refine lv_iconst (v := nI 0) hx hb d_M_badEntries_169 rfl ?_
                    refine lv_istore (lv' := [(9, .int (nI (0))), (8, .int (nI (1))), (7, .int (nI (b + (j * 128)))), (6, .int (nI (j))), (2, .int (y)), (0, .ref (k 0)), (1, .int (nI (b))), (3, .int (nI (i))), (4, .int (nI (b + (i * 128)))), (5, .int (nI (1)))]) hx hb d_M_badEntries_170 hl (by decide) rfl (fun ls hl => ?_)
                    refine lv_iload_n hx hb d_M_badEntries_172 rfl (lv_at hl 4 rfl) ?_
                    refine lv_if_ne (tgt := 212) hx hb d_M_badEntries_173 (by decide) (fun c_173 => ?_) (fun c_173 => ?_)
                    · refine lv_iconst (v := nI 1) hx hb d_M_badEntries_212 rfl ?_
                      refine lv_goto (tgt := 217) hx hb d_M_badEntries_213 (by decide) ?_
                      refine lv_istore_n (lv' := [(2, .int (nI (1))), (9, .int (nI (0))), (8, .int (nI (1))), (7, .int (nI (b + (j * 128)))), (6, .int (nI (j))), (0, .ref (k 0)), (1, .int (nI (b))), (3, .int (nI (i))), (4, .int (nI (b + (i * 128)))), (5, .int (nI (1)))]) hx hb d_M_badEntries_217 rfl hl (by decide) rfl (fun ls hl => ?_)
                      refine lv_iinc (v := (nI (j + 1))) (lv' := [(6, .int (nI (j + 1))), (2, .int (nI (1))), (9, .int (nI (0))), (8, .int (nI (1))), (7, .int (nI (b + (j * 128)))), (0, .ref (k 0)), (1, .int (nI (b))), (3, .int (nI (i))), (4, .int (nI (b + (i * 128)))), (5, .int (nI (1)))]) hx hb d_M_badEntries_218 hl (k := 4) rfl (nI_add _ _) (by decide) rfl (fun ls hl => ?_)
                      refine lv_goto (tgt := 81) hx hb d_M_badEntries_221 (by decide) ?_
                      exact ih2 (j + 1) _ _ _ _ (by omega) (by omega) hnf (bI_t ((bI_y hv2 c_173).imp id (fun z => z.imp id (fun w => exS.mpr (Or.inl w))))).symm hP hS (lv_sub hl [0, 1, 5, 6, 7, 8, 9] rfl)
                    · refine lv_iload hx hb d_M_badEntries_176 (lv_at hl 1 rfl) ?_
                      refine lv_if_eq (tgt := 216) hx hb d_M_badEntries_178 (by decide) (fun c9 => absurd c9 (by decide)) (fun _ => ?_)
                      refine lv_iload hx hb d_M_badEntries_181 (lv_at hl 0 rfl) ?_
                      refine lv_if_ne (tgt := 212) hx hb d_M_badEntries_183 (by decide) (fun c9 => absurd (by decide) c9) (fun _ => ?_)
                      refine lv_aload_n hx hb d_M_badEntries_186 rfl (lv_at hl 5 rfl) ?_
                      refine va_get (D := D) (ci := 3) (v := .ref (k 1)) (C := R_M) (T := F_M) (N := 4) hx hb hts (fun w h => .tail _ (fi_M w h)) hown hK hP 0 rfl rfl 1 (by decide) (hts _ (.tail _ m_405)) (fun _ h9 => h9) rfl d_M_badEntries_187 ?_
                      refine lv_iload hx hb d_M_badEntries_190 (lv_at hl 8 rfl) ?_
                      refine lv_bipush (v := nI 16) hx hb d_M_badEntries_192 rfl ?_
                      refine lv_iaddN hx hb d_M_badEntries_194 ?_
                      refine lv_aload_n hx hb d_M_badEntries_195 rfl (lv_at hl 5 rfl) ?_
                      refine va_get (D := D) (ci := 3) (v := .ref (k 1)) (C := R_M) (T := F_M) (N := 4) hx hb hts (fun w h => .tail _ (fi_M w h)) hown hK hP 0 rfl rfl 1 (by decide) (hts _ (.tail _ m_405)) (fun _ h9 => h9) rfl d_M_badEntries_196 ?_
                      refine lv_iload hx hb d_M_badEntries_199 (lv_at hl 2 rfl) ?_
                      refine lv_bipush (v := nI 16) hx hb d_M_badEntries_201 rfl ?_
                      refine lv_iaddN hx hb d_M_badEntries_203 ?_
                      refine lv_bipush (v := nI 16) hx hb d_M_badEntries_204 rfl ?_
                      refine g_callSi (As := [.ref (k 1), .int (nI ((b + (i * 128)) + 16)), .ref (k 1), .int (nI ((b + (j * 128)) + 16)), .int (nI (16))]) (rest := []) ⟨hx, hb, hml, hown, hts⟩ (index := 78) (c_M_same l D k cI n A hn hn2 (mU (d) (t) (mk)) (1) (by omega) (by omega) (1) (by omega) (by omega) ((b + (i * 128)) + 16) ((b + (j * 128)) + 16) (16) (by omega) (by omega)) (cwS 5 hts (gd_S m_501 m_502 m_33 m_503) rfl rfl rfl hd_M_same ⟨Nat.le_of_ble_eq_true rfl, Nat.le_of_ble_eq_true rfl⟩) mW_w mX_x hB hP hS rfl hl.1 rfl (Nat.le_of_ble_eq_true rfl) d_M_badEntries_206 ⟨Nat.zero_le _, Nat.zero_le _⟩ (fun r_ v_ H locs hw hP hS => ?_)
                      obtain ⟨hw1, hw2⟩ := hw; have hw1 : r_ = (bI (alk (d) (d) ((b + (i * 128)) + 16) ((b + (j * 128)) + 16) 16)) := hw1; have hw1 := hw1.symm; have hw2 := hw2.symm; subst hw1; subst hw2
                      refine lv_if_eq (tgt := 216) hx hb d_M_badEntries_209 (by decide) (fun c_209 => ?_) (fun c_209 => ?_)
                      · have c_209 := bI_0.mp c_209
                        refine lv_iconst (v := nI 0) hx hb d_M_badEntries_216 rfl ?_
                        refine lv_istore_n (lv' := [(2, .int (nI (0))), (9, .int (nI (0))), (8, .int (nI (1))), (7, .int (nI (b + (j * 128)))), (6, .int (nI (j))), (0, .ref (k 0)), (1, .int (nI (b))), (3, .int (nI (i))), (4, .int (nI (b + (i * 128)))), (5, .int (nI (1)))]) hx hb d_M_badEntries_217 rfl hl (by decide) rfl (fun ls hl => ?_)
                        refine lv_iinc (v := (nI (j + 1))) (lv' := [(6, .int (nI (j + 1))), (2, .int (nI (0))), (9, .int (nI (0))), (8, .int (nI (1))), (7, .int (nI (b + (j * 128)))), (0, .ref (k 0)), (1, .int (nI (b))), (3, .int (nI (i))), (4, .int (nI (b + (i * 128)))), (5, .int (nI (1)))]) hx hb d_M_badEntries_218 hl (k := 4) rfl (nI_add _ _) (by decide) rfl (fun ls hl => ?_)
                        refine lv_goto (tgt := 81) hx hb d_M_badEntries_221 (by decide) ?_
                        exact ih2 (j + 1) _ _ _ _ (by omega) (by omega) hnf (bI_f (fun z => z.elim (fun z => bI_x hv2 c_173 (Or.inl z)) (fun z => z.elim (fun z => bI_x hv2 c_173 (Or.inr (Or.inl z))) (fun z => (exS.mp z).elim (fun z => bI_x hv2 c_173 (Or.inr (Or.inr z))) (fun w => w.2.elim (fun q => q.2 c_162) c_209))))).symm hP hS (lv_sub hl [0, 1, 5, 6, 7, 8, 9] rfl)
                      · have c_209 := bI_1 c_209
                        refine lv_iconst (v := nI 1) hx hb d_M_badEntries_212 rfl ?_
                        refine lv_goto (tgt := 217) hx hb d_M_badEntries_213 (by decide) ?_
                        refine lv_istore_n (lv' := [(2, .int (nI (1))), (9, .int (nI (0))), (8, .int (nI (1))), (7, .int (nI (b + (j * 128)))), (6, .int (nI (j))), (0, .ref (k 0)), (1, .int (nI (b))), (3, .int (nI (i))), (4, .int (nI (b + (i * 128)))), (5, .int (nI (1)))]) hx hb d_M_badEntries_217 rfl hl (by decide) rfl (fun ls hl => ?_)
                        refine lv_iinc (v := (nI (j + 1))) (lv' := [(6, .int (nI (j + 1))), (2, .int (nI (1))), (9, .int (nI (0))), (8, .int (nI (1))), (7, .int (nI (b + (j * 128)))), (0, .ref (k 0)), (1, .int (nI (b))), (3, .int (nI (i))), (4, .int (nI (b + (i * 128)))), (5, .int (nI (1)))]) hx hb d_M_badEntries_218 hl (k := 4) rfl (nI_add _ _) (by decide) rfl (fun ls hl => ?_)
                        refine lv_goto (tgt := 81) hx hb d_M_badEntries_221 (by decide) ?_
                        exact ih2 (j + 1) _ _ _ _ (by omega) (by omega) hnf (bI_t (Or.inr (Or.inr (exS.mpr (Or.inr ⟨c_111, Or.inr c_209⟩))))).symm hP hS (lv_sub hl [0, 1, 5, 6, 7, 8, 9] rfl)
                  · have c_162 := fun z => c_162 ((lg_cmp_gt _ _).mpr z)
                    refine lv_iconst (v := nI 1) hx hb d_M_badEntries_165 rfl ?_
                    refine lv_goto (tgt := 170) hx hb d_M_badEntries_166 (by decide) ?_
                    refine lv_istore (lv' := [(9, .int (nI (1))), (8, .int (nI (1))), (7, .int (nI (b + (j * 128)))), (6, .int (nI (j))), (2, .int (y)), (0, .ref (k 0)), (1, .int (nI (b))), (3, .int (nI (i))), (4, .int (nI (b + (i * 128)))), (5, .int (nI (1)))]) hx hb d_M_badEntries_170 hl (by decide) rfl (fun ls hl => ?_)
                    refine lv_iload_n hx hb d_M_badEntries_172 rfl (lv_at hl 4 rfl) ?_
                    refine lv_if_ne (tgt := 212) hx hb d_M_badEntries_173 (by decide) (fun c_173 => ?_) (fun c_173 => ?_)
                    · refine lv_iconst (v := nI 1) hx hb d_M_badEntries_212 rfl ?_
                      refine lv_goto (tgt := 217) hx hb d_M_badEntries_213 (by decide) ?_
                      refine lv_istore_n (lv' := [(2, .int (nI (1))), (9, .int (nI (1))), (8, .int (nI (1))), (7, .int (nI (b + (j * 128)))), (6, .int (nI (j))), (0, .ref (k 0)), (1, .int (nI (b))), (3, .int (nI (i))), (4, .int (nI (b + (i * 128)))), (5, .int (nI (1)))]) hx hb d_M_badEntries_217 rfl hl (by decide) rfl (fun ls hl => ?_)
                      refine lv_iinc (v := (nI (j + 1))) (lv' := [(6, .int (nI (j + 1))), (2, .int (nI (1))), (9, .int (nI (1))), (8, .int (nI (1))), (7, .int (nI (b + (j * 128)))), (0, .ref (k 0)), (1, .int (nI (b))), (3, .int (nI (i))), (4, .int (nI (b + (i * 128)))), (5, .int (nI (1)))]) hx hb d_M_badEntries_218 hl (k := 4) rfl (nI_add _ _) (by decide) rfl (fun ls hl => ?_)
                      refine lv_goto (tgt := 81) hx hb d_M_badEntries_221 (by decide) ?_
                      exact ih2 (j + 1) _ _ _ _ (by omega) (by omega) hnf (bI_t ((bI_y hv2 c_173).imp id (fun z => z.imp id (fun w => exS.mpr (Or.inl w))))).symm hP hS (lv_sub hl [0, 1, 5, 6, 7, 8, 9] rfl)
                    · refine lv_iload hx hb d_M_badEntries_176 (lv_at hl 1 rfl) ?_
                      refine lv_if_eq (tgt := 216) hx hb d_M_badEntries_178 (by decide) (fun c9 => absurd c9 (by decide)) (fun _ => ?_)
                      refine lv_iload hx hb d_M_badEntries_181 (lv_at hl 0 rfl) ?_
                      refine lv_if_ne (tgt := 212) hx hb d_M_badEntries_183 (by decide) (fun _ => ?_) (fun c9 => absurd c9 (by decide))
                      refine lv_iconst (v := nI 1) hx hb d_M_badEntries_212 rfl ?_
                      refine lv_goto (tgt := 217) hx hb d_M_badEntries_213 (by decide) ?_
                      refine lv_istore_n (lv' := [(2, .int (nI (1))), (9, .int (nI (1))), (8, .int (nI (1))), (7, .int (nI (b + (j * 128)))), (6, .int (nI (j))), (0, .ref (k 0)), (1, .int (nI (b))), (3, .int (nI (i))), (4, .int (nI (b + (i * 128)))), (5, .int (nI (1)))]) hx hb d_M_badEntries_217 rfl hl (by decide) rfl (fun ls hl => ?_)
                      refine lv_iinc (v := (nI (j + 1))) (lv' := [(6, .int (nI (j + 1))), (2, .int (nI (1))), (9, .int (nI (1))), (8, .int (nI (1))), (7, .int (nI (b + (j * 128)))), (0, .ref (k 0)), (1, .int (nI (b))), (3, .int (nI (i))), (4, .int (nI (b + (i * 128)))), (5, .int (nI (1)))]) hx hb d_M_badEntries_218 hl (k := 4) rfl (nI_add _ _) (by decide) rfl (fun ls hl => ?_)
                      refine lv_goto (tgt := 81) hx hb d_M_badEntries_221 (by decide) ?_
                      exact ih2 (j + 1) _ _ _ _ (by omega) (by omega) hnf (bI_t (Or.inr (Or.inr (exS.mpr (Or.inr ⟨c_111, Or.inl ⟨c_140, c_162⟩⟩))))).symm hP hS (lv_sub hl [0, 1, 5, 6, 7, 8, 9] rfl)
        refine lv_iload_n hx hb d_M_badEntries_10 rfl (lv_at hl 3 rfl) ?_
        refine lv_sipush (v := nI 128) hx hb d_M_badEntries_11 rfl ?_
        refine lv_iload_n hx hb d_M_badEntries_14 rfl (lv_at hl 0 rfl) ?_
        refine lv_imulC hx hb d_M_badEntries_15 ?_
        refine lv_iaddN hx hb d_M_badEntries_16 ?_
        refine lv_istore (lv' := [(4, .int (nI (b + (i * 128)))), (3, .int (nI (i))), (2, .int (x)), (0, .ref (k 0)), (1, .int (nI (b)))]) hx hb d_M_badEntries_17 hl (by decide) rfl (fun ls hl => ?_)
        refine lv_aload_n hx hb d_M_badEntries_19 rfl (lv_at hl 3 rfl) ?_
        refine va_get (D := D) (ci := 3) (v := .ref (k 1)) (C := R_M) (T := F_M) (N := 4) hx hb hts (fun w h => .tail _ (fi_M w h)) hown hK hP 0 rfl rfl 1 (by decide) (hts _ (.tail _ m_405)) (fun _ h9 => h9) rfl d_M_badEntries_20 ?_
        refine lv_iload hx hb d_M_badEntries_23 (lv_at hl 0 rfl) ?_
        refine g_callSi (As := [.ref (k 1), .int (nI (b + (i * 128)))]) (rest := []) ⟨hx, hb, hml, hown, hts⟩ (index := 63) (c_M_isFree l D k cI n A hn hn2 (mU (d) (t) (mk)) (1) (by omega) (by omega) (b + (i * 128)) (by omega)) (cwS 2 hts (gd_S m_485 m_486 m_33 m_487) rfl rfl rfl hd_M_isFree ⟨Nat.le_of_ble_eq_true rfl, Nat.le_of_ble_eq_true rfl⟩) mW_w mX_x hB hP hS rfl hl.1 rfl (Nat.le_of_ble_eq_true rfl) d_M_badEntries_25 ⟨Nat.zero_le _, Nat.zero_le _⟩ (fun r_ v_ H locs hw hP hS => ?_)
        obtain ⟨hw1, hw2⟩ := hw; have hw1 : r_ = (bI (isZ (d) (b + (i * 128)) 16)) := hw1; have hw1 := hw1.symm; have hw2 := hw2.symm; subst hw1; subst hw2
        refine lv_if_ne (tgt := 35) hx hb d_M_badEntries_28 (by decide) (fun c_28 => ?_) (fun c_28 => ?_)
        · have c_28 := bI_1 c_28
          refine lv_iconst (v := nI 0) hx hb d_M_badEntries_35 rfl ?_
          refine lv_istore (lv' := [(5, .int (nI (0))), (4, .int (nI (b + (i * 128)))), (3, .int (nI (i))), (2, .int (x)), (0, .ref (k 0)), (1, .int (nI (b)))]) hx hb d_M_badEntries_36 hl (by decide) rfl (fun ls hl => ?_)
          refine lv_iload_n hx hb d_M_badEntries_38 rfl (lv_at hl 3 rfl) ?_
          refine lv_if_ne (tgt := 72) hx hb d_M_badEntries_39 (by decide) (fun c_39 => ?_) (fun c_39 => ?_)
          · refine lv_iconst (v := nI 1) hx hb d_M_badEntries_72 rfl ?_
            refine lv_goto (tgt := 77) hx hb d_M_badEntries_73 (by decide) ?_
            refine lv_istore_n (lv' := [(2, .int (nI (1))), (5, .int (nI (0))), (4, .int (nI (b + (i * 128)))), (3, .int (nI (i))), (0, .ref (k 0)), (1, .int (nI (b)))]) hx hb d_M_badEntries_77 rfl hl (by decide) rfl (fun ls hl => ?_)
            refine lv_iconst (v := nI 0) hx hb d_M_badEntries_78 rfl ?_
            refine lv_istore (lv' := [(6, .int (nI (0))), (2, .int (nI (1))), (5, .int (nI (0))), (4, .int (nI (b + (i * 128)))), (3, .int (nI (i))), (0, .ref (k 0)), (1, .int (nI (b)))]) hx hb d_M_badEntries_79 hl (by decide) rfl (fun ls hl => ?_)
            refine lv_iload hx hb d_M_badEntries_81 (lv_at hl 0 rfl) ?_
            refine lv_iload_n hx hb d_M_badEntries_83 rfl (lv_at hl 4 rfl) ?_
            refine lv_icmp_ge (tgt := 224) hx hb d_M_badEntries_84 (by decide) (fun c_84 => ?_) (fun c_84 => ?_)
            · refine lv_iinc (v := (nI (i + 1))) (lv' := [(3, .int (nI (i + 1))), (6, .int (nI (0))), (2, .int (nI (1))), (5, .int (nI (0))), (4, .int (nI (b + (i * 128)))), (0, .ref (k 0)), (1, .int (nI (b)))]) hx hb d_M_badEntries_224 hl (k := 4) rfl (nI_add _ _) (by decide) rfl (fun ls hl => ?_)
              refine lv_goto (tgt := 4) hx hb d_M_badEntries_227 (by decide) ?_
              exact ih (i + 1) _ _ _ _ (by omega) (by omega) (bI_t (exS.mpr (Or.inl (bI_y hv c_39)))).symm hP hS (lv_sub hl [0, 2, 5, 6] rfl)
            · refine lv_iload hx hb d_M_badEntries_87 (lv_at hl 2 rfl) ?_
              refine lv_if_eq (tgt := 224) hx hb d_M_badEntries_89 (by decide) (fun _ => ?_) (fun c9 => absurd (by decide) c9)
              refine lv_iinc (v := (nI (i + 1))) (lv' := [(3, .int (nI (i + 1))), (6, .int (nI (0))), (2, .int (nI (1))), (5, .int (nI (0))), (4, .int (nI (b + (i * 128)))), (0, .ref (k 0)), (1, .int (nI (b)))]) hx hb d_M_badEntries_224 hl (k := 4) rfl (nI_add _ _) (by decide) rfl (fun ls hl => ?_)
              refine lv_goto (tgt := 4) hx hb d_M_badEntries_227 (by decide) ?_
              exact ih (i + 1) _ _ _ _ (by omega) (by omega) (bI_t (exS.mpr (Or.inl (bI_y hv c_39)))).symm hP hS (lv_sub hl [0, 2, 5, 6] rfl)
          · refine lv_iload hx hb d_M_badEntries_42 (lv_at hl 0 rfl) ?_
            refine lv_if_eq (tgt := 76) hx hb d_M_badEntries_44 (by decide) (fun _ => ?_) (fun c9 => absurd (by decide) c9)
            refine lv_iconst (v := nI 0) hx hb d_M_badEntries_76 rfl ?_
            refine lv_istore_n (lv' := [(2, .int (nI (0))), (5, .int (nI (0))), (4, .int (nI (b + (i * 128)))), (3, .int (nI (i))), (0, .ref (k 0)), (1, .int (nI (b)))]) hx hb d_M_badEntries_77 rfl hl (by decide) rfl (fun ls hl => ?_)
            refine lv_iconst (v := nI 0) hx hb d_M_badEntries_78 rfl ?_
            refine lv_istore (lv' := [(6, .int (nI (0))), (2, .int (nI (0))), (5, .int (nI (0))), (4, .int (nI (b + (i * 128)))), (3, .int (nI (i))), (0, .ref (k 0)), (1, .int (nI (b)))]) hx hb d_M_badEntries_79 hl (by decide) rfl (fun ls hl => ?_)
            refine lv_iload hx hb d_M_badEntries_81 (lv_at hl 0 rfl) ?_
            refine lv_iload_n hx hb d_M_badEntries_83 rfl (lv_at hl 4 rfl) ?_
            refine lv_icmp_ge (tgt := 224) hx hb d_M_badEntries_84 (by decide) (fun c_84 => ?_) (fun c_84 => ?_)
            · refine lv_iinc (v := (nI (i + 1))) (lv' := [(3, .int (nI (i + 1))), (6, .int (nI (0))), (2, .int (nI (0))), (5, .int (nI (0))), (4, .int (nI (b + (i * 128)))), (0, .ref (k 0)), (1, .int (nI (b)))]) hx hb d_M_badEntries_224 hl (k := 4) rfl (nI_add _ _) (by decide) rfl (fun ls hl => ?_)
              refine lv_goto (tgt := 4) hx hb d_M_badEntries_227 (by decide) ?_
              exact ih (i + 1) _ _ _ _ (by omega) (by omega) (bI_f (fun z => (exS.mp z).elim (bI_x hv c_39) (fun w => w.1 c_28))).symm hP hS (lv_sub hl [0, 2, 5, 6] rfl)
            · refine lv_iload hx hb d_M_badEntries_87 (lv_at hl 2 rfl) ?_
              refine lv_if_eq (tgt := 224) hx hb d_M_badEntries_89 (by decide) (fun _ => ?_) (fun c9 => absurd (by decide) c9)
              refine lv_iinc (v := (nI (i + 1))) (lv' := [(3, .int (nI (i + 1))), (6, .int (nI (0))), (2, .int (nI (0))), (5, .int (nI (0))), (4, .int (nI (b + (i * 128)))), (0, .ref (k 0)), (1, .int (nI (b)))]) hx hb d_M_badEntries_224 hl (k := 4) rfl (nI_add _ _) (by decide) rfl (fun ls hl => ?_)
              refine lv_goto (tgt := 4) hx hb d_M_badEntries_227 (by decide) ?_
              exact ih (i + 1) _ _ _ _ (by omega) (by omega) (bI_f (fun z => (exS.mp z).elim (bI_x hv c_39) (fun w => w.1 c_28))).symm hP hS (lv_sub hl [0, 2, 5, 6] rfl)
        · have c_28 := bI_0.mp c_28
          refine lv_iconst (v := nI 1) hx hb d_M_badEntries_31 rfl ?_
          refine lv_goto (tgt := 36) hx hb d_M_badEntries_32 (by decide) ?_
          refine lv_istore (lv' := [(5, .int (nI (1))), (4, .int (nI (b + (i * 128)))), (3, .int (nI (i))), (2, .int (x)), (0, .ref (k 0)), (1, .int (nI (b)))]) hx hb d_M_badEntries_36 hl (by decide) rfl (fun ls hl => ?_)
          refine lv_iload_n hx hb d_M_badEntries_38 rfl (lv_at hl 3 rfl) ?_
          refine lv_if_ne (tgt := 72) hx hb d_M_badEntries_39 (by decide) (fun c_39 => ?_) (fun c_39 => ?_)
          · refine lv_iconst (v := nI 1) hx hb d_M_badEntries_72 rfl ?_
            refine lv_goto (tgt := 77) hx hb d_M_badEntries_73 (by decide) ?_
            refine lv_istore_n (lv' := [(2, .int (nI (1))), (5, .int (nI (1))), (4, .int (nI (b + (i * 128)))), (3, .int (nI (i))), (0, .ref (k 0)), (1, .int (nI (b)))]) hx hb d_M_badEntries_77 rfl hl (by decide) rfl (fun ls hl => ?_)
            refine lv_iconst (v := nI 0) hx hb d_M_badEntries_78 rfl ?_
            refine lv_istore (lv' := [(6, .int (nI (0))), (2, .int (nI (1))), (5, .int (nI (1))), (4, .int (nI (b + (i * 128)))), (3, .int (nI (i))), (0, .ref (k 0)), (1, .int (nI (b)))]) hx hb d_M_badEntries_79 hl (by decide) rfl (fun ls hl => ?_)
            exact lp2 (i + 1) 0 _ _ _ _ (Nat.zero_le _) (by omega) c_28 (bI_t (Or.inl (bI_y hv c_39))).symm hP hS (lv_sub hl [0, 1, 5, 6, 4, 3, 2] rfl)
          · refine lv_iload hx hb d_M_badEntries_42 (lv_at hl 0 rfl) ?_
            refine lv_if_eq (tgt := 76) hx hb d_M_badEntries_44 (by decide) (fun c9 => absurd c9 (by decide)) (fun _ => ?_)
            refine lv_aload_n hx hb d_M_badEntries_47 rfl (lv_at hl 4 rfl) ?_
            refine lv_aload_n hx hb d_M_badEntries_48 rfl (lv_at hl 4 rfl) ?_
            refine va_get (D := D) (ci := 3) (v := .ref (k 1)) (C := R_M) (T := F_M) (N := 4) hx hb hts (fun w h => .tail _ (fi_M w h)) hown hK hP 0 rfl rfl 1 (by decide) (hts _ (.tail _ m_405)) (fun _ h9 => h9) rfl d_M_badEntries_49 ?_
            refine lv_iload hx hb d_M_badEntries_52 (lv_at hl 1 rfl) ?_
            refine g_callSl (As := [.ref (k 1), .int (nI (b + (i * 128)))]) (rest := [.ref (k 0)]) ⟨hx, hb, hml, hown, hts⟩ (index := 67) (c_M_first l D k cI n A hn hn2 (mU (d) (t) (mk)) (1) (by omega) (by omega) (b + (i * 128)) (by omega)) (cwS 2 hts (gd_S m_491 m_492 m_33 m_493) rfl rfl rfl hd_M_first ⟨Nat.le_of_ble_eq_true rfl, Nat.le_of_ble_eq_true rfl⟩) mW_w mX_x hB hP hS rfl hl.1 rfl (Nat.le_of_ble_eq_true rfl) d_M_badEntries_54 ⟨Nat.zero_le _, Nat.zero_le _⟩ (fun r_ v_ H locs hw hP hS => ?_)
            obtain ⟨hw1, hw2⟩ := hw; have hw1 : r_ = (num (d) ((b + (i * 128)) + 32) 8) := hw1; have hw1 := hw1.symm; have hw2 := hw2.symm; subst hw1; subst hw2
            refine lv_aload_n hx hb d_M_badEntries_57 rfl (lv_at hl 4 rfl) ?_
            refine va_get (D := D) (ci := 3) (v := .ref (k 1)) (C := R_M) (T := F_M) (N := 4) hx hb hts (fun w h => .tail _ (fi_M w h)) hown hK hP 0 rfl rfl 1 (by decide) (hts _ (.tail _ m_405)) (fun _ h9 => h9) rfl d_M_badEntries_58 ?_
            refine lv_iload hx hb d_M_badEntries_61 (lv_at hl 1 rfl) ?_
            refine g_callSl (As := [.ref (k 1), .int (nI (b + (i * 128)))]) (rest := [.long (num (d) ((b + (i * 128)) + 32) 8), .ref (k 0)]) ⟨hx, hb, hml, hown, hts⟩ (index := 71) (c_M_last l D k cI n A hn hn2 (mU (d) (t) (mk)) (1) (by omega) (by omega) (b + (i * 128)) (by omega)) (cwS 2 hts (gd_S m_494 m_495 m_33 m_496) rfl rfl rfl hd_M_last ⟨Nat.le_of_ble_eq_true rfl, Nat.le_of_ble_eq_true rfl⟩) mW_w mX_x hB hP hS rfl hl.1 rfl (Nat.le_of_ble_eq_true rfl) d_M_badEntries_63 ⟨Nat.zero_le _, Nat.zero_le _⟩ (fun r_ v_ H locs hw hP hS => ?_)
            obtain ⟨hw1, hw2⟩ := hw; have hw1 : r_ = (num (d) ((b + (i * 128)) + 40) 8) := hw1; have hw1 := hw1.symm; have hw2 := hw2.symm; subst hw1; subst hw2
            refine g_callVi (As := [.long (num (d) ((b + (i * 128)) + 32) 8), .long (num (d) ((b + (i * 128)) + 40) 8)]) (rest := []) ⟨hx, hb, hml, hown, hts⟩ (C := R_M) (index := 74) (c_M_badRange l D k cI n A hn hn2 (d) (t) (mk) (num (d) ((b + (i * 128)) + 32) 8) (num (d) ((b + (i * 128)) + 40) 8)) (cwV 2 hts (gd_V m_497 m_499 m_21 m_33 m_500) rfl rfl rfl hd_M_badRange ⟨Nat.le_of_ble_eq_true rfl, Nat.le_of_ble_eq_true rfl⟩) mW_w mX_x hB hP hS (ci := 3) rfl (0) rfl rfl hl.1 rfl (Nat.le_of_ble_eq_true rfl) d_M_badEntries_66 ⟨Nat.zero_le _, Nat.zero_le _⟩ (fun r_ v_ H locs hw hP hS => ?_)
            obtain ⟨hw1, hw2⟩ := hw; have hw1 := hw1.symm; have hw2 := hw2.symm; subst hw1; subst hw2
            refine lv_if_eq (tgt := 76) hx hb d_M_badEntries_69 (by decide) (fun c_69 => ?_) (fun c_69 => ?_)
            · have c_69 := bI_0.mp c_69
              refine lv_iconst (v := nI 0) hx hb d_M_badEntries_76 rfl ?_
              refine lv_istore_n (lv' := [(2, .int (nI (0))), (5, .int (nI (1))), (4, .int (nI (b + (i * 128)))), (3, .int (nI (i))), (0, .ref (k 0)), (1, .int (nI (b)))]) hx hb d_M_badEntries_77 rfl hl (by decide) rfl (fun ls hl => ?_)
              refine lv_iconst (v := nI 0) hx hb d_M_badEntries_78 rfl ?_
              refine lv_istore (lv' := [(6, .int (nI (0))), (2, .int (nI (0))), (5, .int (nI (1))), (4, .int (nI (b + (i * 128)))), (3, .int (nI (i))), (0, .ref (k 0)), (1, .int (nI (b)))]) hx hb d_M_badEntries_79 hl (by decide) rfl (fun ls hl => ?_)
              exact lp2 (i + 1) 0 _ _ _ _ (Nat.zero_le _) (by omega) c_28 (bI_f (fun z => z.elim (bI_x hv c_39) (fun z => z.elim c_69 (fun ⟨p, hp, _⟩ => absurd hp (Nat.not_lt_zero _))))).symm hP hS (lv_sub hl [0, 1, 5, 6, 4, 3, 2] rfl)
            · have c_69 := bI_1 c_69
              refine lv_iconst (v := nI 1) hx hb d_M_badEntries_72 rfl ?_
              refine lv_goto (tgt := 77) hx hb d_M_badEntries_73 (by decide) ?_
              refine lv_istore_n (lv' := [(2, .int (nI (1))), (5, .int (nI (1))), (4, .int (nI (b + (i * 128)))), (3, .int (nI (i))), (0, .ref (k 0)), (1, .int (nI (b)))]) hx hb d_M_badEntries_77 rfl hl (by decide) rfl (fun ls hl => ?_)
              refine lv_iconst (v := nI 0) hx hb d_M_badEntries_78 rfl ?_
              refine lv_istore (lv' := [(6, .int (nI (0))), (2, .int (nI (1))), (5, .int (nI (1))), (4, .int (nI (b + (i * 128)))), (3, .int (nI (i))), (0, .ref (k 0)), (1, .int (nI (b)))]) hx hb d_M_badEntries_79 hl (by decide) rfl (fun ls hl => ?_)
              exact lp2 (i + 1) 0 _ _ _ _ (Nat.zero_le _) (by omega) c_28 (bI_t (Or.inr (Or.inl c_69))).symm hP hS (lv_sub hl [0, 1, 5, 6, 4, 3, 2] rfl)
  exact lp (8 + 1) 0 _ _ _ _ (Nat.zero_le _) (by omega) (bI_f (fun ⟨p, hp, _⟩ => absurd hp (Nat.not_lt_zero _))).symm hP hS (lv_sub hl [0, 1, 2, 3] rfl)
abbrev w_M_fault : List Cond := .code y_M_fault b_M_fault 4 (some .int) :: ALL
abbrev rm_M_fault : Room := { frames := 3, cells := 0, slots := 0, locals := 75 }
theorem hd_M_fault : y_M_fault.cls = R_M ∧ y_M_fault.cls ≠ "java/lang/invoke/MethodHandle" ∧ y_M_fault.cls ≠ "java/lang/invoke/VarHandle" ∧ (parseMethodDescriptor y_M_fault.desc).map (fun d => d.parameters.length) = some 1 := by decide +kernel
set_option maxHeartbeats 4000000 in
set_option maxRecDepth 100000 in
theorem c_M_faultJ (l : Launch) (D : va_G) (k : Nat → Nat) (cI : Nat → ClassId) (n : Nat) (A : Nat → Prop) (hn : 12 ≤ n) (hn2 : n ≤ 24) (d t mk : Nat → BitVec 8) (j : Nat) (hj : j < 2) : Met l y_M_fault w_M_fault rm_M_fault (va_Pc [.ref (k 0), .int (nI (j))] (mB D k cI n A (mU d t mk))) (va_Qi (fun r v => r = fft n j d ∧ v = mU d t mk) (mB D k cI n A) A) 0 0 A := by
  refine g_ofW (cc := b_M_fault) (maxL := 4) (ret := (some .int)) (by decide) rfl (Nat.le_of_ble_eq_true rfl) ?_
  intro p e s m below meth c ls hx hb hml hr hlk hown hts hnm hB hl
  have hown : s.vm.findClass R_M = some m.cls := hown
  have hP := hB.1
  have hK := hB.2.1
  obtain ⟨H, hH⟩ : ∃ H, H = s.heap := ⟨_, rfl⟩
  have hS : va_S A s.heap H [] := by rw [hH]; exact va_S.rf
  rw [← hH] at hP ⊢
  have hl : lv_has ls 4 [(0, .ref (k 0)), (1, .int (nI (j)))] := hl
  have z1 : mSz 1 = 12288 := rfl
  have z2 : mSz 2 = 1024 := rfl
  have z3 : mSz 3 = 16 := rfl
  have hHd := cHd_le hn hj
  have hAr := cAr_le hn hj
  refine lv_iload_n hx hb d_M_fault_0 rfl (lv_at hl 1 rfl) ?_
  refine lv_if_lt (tgt := 9) hx hb d_M_fault_1 (by decide) (fun c9 => absurd c9 (nI_pos (by omega))) (fun _ => ?_)
  refine lv_iload_n hx hb d_M_fault_4 rfl (lv_at hl 1 rfl) ?_
  refine lv_iconst (v := nI 1) hx hb d_M_fault_5 rfl ?_
  refine lv_icmp_le (tgt := 11) hx hb d_M_fault_6 (by decide) (fun _ => ?_) (fun c9 => absurd (nI_le (by omega) (by decide)) c9)
  refine lv_aload_n hx hb d_M_fault_11 rfl (lv_at hl 0 rfl) ?_
  refine lv_iload_n hx hb d_M_fault_12 rfl (lv_at hl 1 rfl) ?_
  refine g_callVi (As := [.int (nI (j))]) (rest := []) ⟨hx, hb, hml, hown, hts⟩ (C := R_M) (index := 82) (c_M_headerAt l D k cI n A hn hn2 (d) (t) (mk) (j) hj) (cwV 1 hts (gd_V m_457 m_459 m_16 m_33 m_460) rfl rfl rfl hd_M_headerAt ⟨Nat.le_of_ble_eq_true rfl, Nat.le_of_ble_eq_true rfl⟩) mW_w mX_x hB hP hS (ci := 3) rfl (0) rfl rfl hl.1 rfl (Nat.le_of_ble_eq_true rfl) d_M_fault_13 ⟨Nat.zero_le _, Nat.zero_le _⟩ (fun r_ v_ H locs hw hP hS => ?_)
  obtain ⟨hw1, hw2⟩ := hw; have hw1 := hw1.symm; have hw2 := hw2.symm; subst hw1; subst hw2
  refine lv_istore_n (lv' := [(2, .int (nI (cHd n j))), (0, .ref (k 0)), (1, .int (nI (j)))]) hx hb d_M_fault_16 rfl hl (by decide) rfl (fun ls hl => ?_)
  refine lv_iconst (v := nI 0) hx hb d_M_fault_17 rfl ?_
  refine lv_istore_n (lv' := [(3, .int (nI (0))), (2, .int (nI (cHd n j))), (0, .ref (k 0)), (1, .int (nI (j)))]) hx hb d_M_fault_18 rfl hl (by decide) rfl (fun ls hl => ?_)
  have lp : ∀ (q : Nat) (i : Nat) (H : Heap) (locs : List Loc) (ls : Array Slot), (i ≤ 8) → (8 + 1 ≤ i + q) → (∀ p, p < i → d (cHd n j + p) = byt 6075990659671082565 p) → va_P D classes (mW k cI n (mU (d) (t) (mk))) H → va_S A s.heap H locs → lv_has ls 4 [(3, .int (nI (i))), (2, .int (nI (cHd n j))), (0, .ref (k 0)), (1, .int (nI (j)))] → W p l e rm_M_fault s m ([.ref (k 0), .int (nI (j))] : List Value).toArray below meth c H locs 0 0 (MQ below (va_Qi (fun r v => r = fft n j d ∧ v = mU d t mk) (mB D k cI n A) A) ([.ref (k 0), .int (nI (j))] : List Value).toArray s 0 0 A) (F0 m 19 ls []) := by
    intro q
    induction q with
    | zero =>
      intro i H locs ls hi hq hv hP hS hl
      exact absurd hq (by omega)
    | succ q ih =>
      intro i H locs ls hi hq hv hP hS hl
      refine lv_iload_n hx hb d_M_fault_19 rfl (lv_at hl 0 rfl) ?_
      refine lv_bipush (v := nI 8) hx hb d_M_fault_20 rfl ?_
      refine lv_icmp_ge (tgt := 48) hx hb d_M_fault_22 (by decide) (fun c_22 => ?_) (fun c_22 => ?_)
      · have hik : i = 8 := ge_t hi (by omega) c_22
        have hsg : num d (cHd n j) 8 = 6075990659671082565 := sig_iff.mpr (by rw [hik] at hv; exact hv)
        refine lv_aload_n hx hb d_M_fault_48 rfl (lv_at hl 2 rfl) ?_
        refine va_get (D := D) (ci := 3) (v := .ref (k 1)) (C := R_M) (T := F_M) (N := 4) hx hb hts (fun w h => .tail _ (fi_M w h)) hown hK hP 0 rfl rfl 1 (by decide) (hts _ (.tail _ m_405)) (fun _ h9 => h9) rfl d_M_fault_49 ?_
        refine lv_iload_n hx hb d_M_fault_52 rfl (lv_at hl 1 rfl) ?_
        refine lv_bipush (v := nI 8) hx hb d_M_fault_53 rfl ?_
        refine lv_iaddN hx hb d_M_fault_55 ?_
        refine lv_iconst (v := nI 4) hx hb d_M_fault_56 rfl ?_
        refine g_callSl (As := [.ref (k 1), .int (nI ((cHd n j) + 8)), .int (nI (4))]) (rest := []) ⟨hx, hb, hml, hown, hts⟩ (index := 53) (c_M_get l D k cI n A hn hn2 (mU (d) (t) (mk)) (1) (by omega) (by omega) ((cHd n j) + 8) (4) (by omega)) (cwS 3 hts (gd_S m_450 m_451 m_33 m_452) rfl rfl rfl hd_M_get ⟨Nat.le_of_ble_eq_true rfl, Nat.le_of_ble_eq_true rfl⟩) mW_w mX_x hB hP hS rfl hl.1 rfl (Nat.le_of_ble_eq_true rfl) d_M_fault_57 ⟨Nat.zero_le _, Nat.zero_le _⟩ (fun r_ v_ H locs hw hP hS => ?_)
        obtain ⟨hw1, hw2⟩ := hw; have hw1 : r_ = (num (d) ((cHd n j) + 8) 4) := hw1; have hw1 := hw1.symm; have hw2 := hw2.symm; subst hw1; subst hw2
        refine lv_ldc2 (v := 65536) hx hb hown (hts _ (.tail _ m_468)) d_M_fault_60 ?_
        refine W.lcmp hx hb d_M_fault_63 ?_
        refine lv_if_ne (tgt := 103) hx hb d_M_fault_64 (by decide) (fun c_64 => ?_) (fun c_64 => ?_)
        · have c_64 := fun z => c_64 ((lg_cmp_eq _ _).mpr z)
          refine lv_iconst (v := nI 2) hx hb d_M_fault_103 rfl ?_
          exact g_iret (v := (nI (2))) hx hb hr hlk mW_w mX_x hB hP hS (⟨((cI_t (hsg)).trans (cI_f (fun z => c_64 z.1))).symm, rfl⟩) d_M_fault_104
        · have c_64 := (lg_cmp_eq _ _).mp c_64
          refine lv_aload_n hx hb d_M_fault_67 rfl (lv_at hl 2 rfl) ?_
          refine va_get (D := D) (ci := 3) (v := .ref (k 1)) (C := R_M) (T := F_M) (N := 4) hx hb hts (fun w h => .tail _ (fi_M w h)) hown hK hP 0 rfl rfl 1 (by decide) (hts _ (.tail _ m_405)) (fun _ h9 => h9) rfl d_M_fault_68 ?_
          refine lv_iload_n hx hb d_M_fault_71 rfl (lv_at hl 1 rfl) ?_
          refine lv_bipush (v := nI 12) hx hb d_M_fault_72 rfl ?_
          refine lv_iaddN hx hb d_M_fault_74 ?_
          refine lv_iconst (v := nI 4) hx hb d_M_fault_75 rfl ?_
          refine g_callSl (As := [.ref (k 1), .int (nI ((cHd n j) + 12)), .int (nI (4))]) (rest := []) ⟨hx, hb, hml, hown, hts⟩ (index := 53) (c_M_get l D k cI n A hn hn2 (mU (d) (t) (mk)) (1) (by omega) (by omega) ((cHd n j) + 12) (4) (by omega)) (cwS 3 hts (gd_S m_450 m_451 m_33 m_452) rfl rfl rfl hd_M_get ⟨Nat.le_of_ble_eq_true rfl, Nat.le_of_ble_eq_true rfl⟩) mW_w mX_x hB hP hS rfl hl.1 rfl (Nat.le_of_ble_eq_true rfl) d_M_fault_76 ⟨Nat.zero_le _, Nat.zero_le _⟩ (fun r_ v_ H locs hw hP hS => ?_)
          obtain ⟨hw1, hw2⟩ := hw; have hw1 : r_ = (num (d) ((cHd n j) + 12) 4) := hw1; have hw1 := hw1.symm; have hw2 := hw2.symm; subst hw1; subst hw2
          refine lv_ldc2 (v := 92) hx hb hown (hts _ (.tail _ m_469)) d_M_fault_79 ?_
          refine W.lcmp hx hb d_M_fault_82 ?_
          refine lv_if_ne (tgt := 103) hx hb d_M_fault_83 (by decide) (fun c_83 => ?_) (fun c_83 => ?_)
          · have c_83 := fun z => c_83 ((lg_cmp_eq _ _).mpr z)
            refine lv_iconst (v := nI 2) hx hb d_M_fault_103 rfl ?_
            exact g_iret (v := (nI (2))) hx hb hr hlk mW_w mX_x hB hP hS (⟨((cI_t (hsg)).trans (cI_f (fun z => c_83 z.2.1))).symm, rfl⟩) d_M_fault_104
          · have c_83 := (lg_cmp_eq _ _).mp c_83
            refine lv_aload_n hx hb d_M_fault_86 rfl (lv_at hl 2 rfl) ?_
            refine va_get (D := D) (ci := 3) (v := .ref (k 1)) (C := R_M) (T := F_M) (N := 4) hx hb hts (fun w h => .tail _ (fi_M w h)) hown hK hP 0 rfl rfl 1 (by decide) (hts _ (.tail _ m_405)) (fun _ h9 => h9) rfl d_M_fault_87 ?_
            refine lv_iload_n hx hb d_M_fault_90 rfl (lv_at hl 1 rfl) ?_
            refine lv_bipush (v := nI 20) hx hb d_M_fault_91 rfl ?_
            refine lv_iaddN hx hb d_M_fault_93 ?_
            refine lv_iconst (v := nI 4) hx hb d_M_fault_94 rfl ?_
            refine g_callSl (As := [.ref (k 1), .int (nI ((cHd n j) + 20)), .int (nI (4))]) (rest := []) ⟨hx, hb, hml, hown, hts⟩ (index := 53) (c_M_get l D k cI n A hn hn2 (mU (d) (t) (mk)) (1) (by omega) (by omega) ((cHd n j) + 20) (4) (by omega)) (cwS 3 hts (gd_S m_450 m_451 m_33 m_452) rfl rfl rfl hd_M_get ⟨Nat.le_of_ble_eq_true rfl, Nat.le_of_ble_eq_true rfl⟩) mW_w mX_x hB hP hS rfl hl.1 rfl (Nat.le_of_ble_eq_true rfl) d_M_fault_95 ⟨Nat.zero_le _, Nat.zero_le _⟩ (fun r_ v_ H locs hw hP hS => ?_)
            obtain ⟨hw1, hw2⟩ := hw; have hw1 : r_ = (num (d) ((cHd n j) + 20) 4) := hw1; have hw1 := hw1.symm; have hw2 := hw2.symm; subst hw1; subst hw2
            refine lv_lconst (v := 0) hx hb d_M_fault_98 rfl ?_
            refine W.lcmp hx hb d_M_fault_99 ?_
            refine lv_if_eq (tgt := 105) hx hb d_M_fault_100 (by decide) (fun c_100 => ?_) (fun c_100 => ?_)
            · have c_100 := (lg_cmp_eq _ _).mp c_100
              refine lv_aload_n hx hb d_M_fault_105 rfl (lv_at hl 2 rfl) ?_
              refine va_get (D := D) (ci := 3) (v := .ref (k 1)) (C := R_M) (T := F_M) (N := 4) hx hb hts (fun w h => .tail _ (fi_M w h)) hown hK hP 0 rfl rfl 1 (by decide) (hts _ (.tail _ m_405)) (fun _ h9 => h9) rfl d_M_fault_106 ?_
              refine lv_iload_n hx hb d_M_fault_109 rfl (lv_at hl 1 rfl) ?_
              refine lv_bipush (v := nI 16) hx hb d_M_fault_110 rfl ?_
              refine lv_iaddN hx hb d_M_fault_112 ?_
              refine lv_iconst (v := nI 4) hx hb d_M_fault_113 rfl ?_
              refine g_callSl (As := [.ref (k 1), .int (nI ((cHd n j) + 16)), .int (nI (4))]) (rest := []) ⟨hx, hb, hml, hown, hts⟩ (index := 53) (c_M_get l D k cI n A hn hn2 (mU (d) (t) (mk)) (1) (by omega) (by omega) ((cHd n j) + 16) (4) (by omega)) (cwS 3 hts (gd_S m_450 m_451 m_33 m_452) rfl rfl rfl hd_M_get ⟨Nat.le_of_ble_eq_true rfl, Nat.le_of_ble_eq_true rfl⟩) mW_w mX_x hB hP hS rfl hl.1 rfl (Nat.le_of_ble_eq_true rfl) d_M_fault_114 ⟨Nat.zero_le _, Nat.zero_le _⟩ (fun r_ v_ H locs hw hP hS => ?_)
              obtain ⟨hw1, hw2⟩ := hw; have hw1 : r_ = (num (d) ((cHd n j) + 16) 4) := hw1; have hw1 := hw1.symm; have hw2 := hw2.symm; subst hw1; subst hw2
              refine lv_l2i hx hb d_M_fault_117 rfl ?_
              refine lv_aload_n hx hb d_M_fault_118 rfl (lv_at hl 2 rfl) ?_
              refine lv_iload_n hx hb d_M_fault_119 rfl (lv_at hl 1 rfl) ?_
              refine lv_bipush (v := nI 92) hx hb d_M_fault_120 rfl ?_
              refine lv_iload_n hx hb d_M_fault_122 rfl (lv_at hl 1 rfl) ?_
              refine lv_bipush (v := nI 16) hx hb d_M_fault_123 rfl ?_
              refine lv_iaddN hx hb d_M_fault_125 ?_
              refine g_callVi (As := [.int (nI (cHd n j)), .int (nI (92)), .int (nI ((cHd n j) + 16))]) (rest := [.int ((num (d) ((cHd n j) + 16) 4).toInt32)]) ⟨hx, hb, hml, hown, hts⟩ (C := R_M) (index := 42) (c_M_sumOfB l D k cI n A hn hn2 (d) (t) (mk) ((cHd n j) + 16) (cHd n j) (92) (by omega) (by omega) (by omega)) (cwV 3 hts (gd_V m_438 m_440 m_15 m_33 m_441) rfl rfl rfl hd_M_sumOf ⟨Nat.le_of_ble_eq_true rfl, Nat.le_of_ble_eq_true rfl⟩) mW_w mX_x hB hP hS (ci := 3) rfl (0) rfl rfl hl.1 rfl (Nat.le_of_ble_eq_true rfl) d_M_fault_126 ⟨Nat.zero_le _, Nat.zero_le _⟩ (fun r_ v_ H locs hw hP hS => ?_)
              obtain ⟨hw1, hw2⟩ := hw; have hw1 := hw1.symm; have hw2 := hw2.symm; subst hw1; subst hw2
              refine lv_icmp_eq (tgt := 134) hx hb d_M_fault_129 (by decide) (fun c_129 => ?_) (fun c_129 => ?_)
              · refine lv_aload_n hx hb d_M_fault_134 rfl (lv_at hl 2 rfl) ?_
                refine va_get (D := D) (ci := 3) (v := .ref (k 1)) (C := R_M) (T := F_M) (N := 4) hx hb hts (fun w h => .tail _ (fi_M w h)) hown hK hP 0 rfl rfl 1 (by decide) (hts _ (.tail _ m_405)) (fun _ h9 => h9) rfl d_M_fault_135 ?_
                refine lv_iload_n hx hb d_M_fault_138 rfl (lv_at hl 1 rfl) ?_
                refine lv_bipush (v := nI 24) hx hb d_M_fault_139 rfl ?_
                refine lv_iaddN hx hb d_M_fault_141 ?_
                refine lv_bipush (v := nI 8) hx hb d_M_fault_142 rfl ?_
                refine g_callSl (As := [.ref (k 1), .int (nI ((cHd n j) + 24)), .int (nI (8))]) (rest := []) ⟨hx, hb, hml, hown, hts⟩ (index := 53) (c_M_get l D k cI n A hn hn2 (mU (d) (t) (mk)) (1) (by omega) (by omega) ((cHd n j) + 24) (8) (by omega)) (cwS 3 hts (gd_S m_450 m_451 m_33 m_452) rfl rfl rfl hd_M_get ⟨Nat.le_of_ble_eq_true rfl, Nat.le_of_ble_eq_true rfl⟩) mW_w mX_x hB hP hS rfl hl.1 rfl (Nat.le_of_ble_eq_true rfl) d_M_fault_144 ⟨Nat.zero_le _, Nat.zero_le _⟩ (fun r_ v_ H locs hw hP hS => ?_)
                obtain ⟨hw1, hw2⟩ := hw; have hw1 : r_ = (num (d) ((cHd n j) + 24) 8) := hw1; have hw1 := hw1.symm; have hw2 := hw2.symm; subst hw1; subst hw2
                refine lv_aload_n hx hb d_M_fault_147 rfl (lv_at hl 2 rfl) ?_
                refine lv_iload_n hx hb d_M_fault_148 rfl (lv_at hl 3 rfl) ?_
                refine g_callVi (As := [.int (nI (j))]) (rest := [.long (num (d) ((cHd n j) + 24) 8)]) ⟨hx, hb, hml, hown, hts⟩ (C := R_M) (index := 46) (c_M_header l D k cI n A hn hn2 (d) (t) (mk) (j) hj) (cwV 1 hts (gd_V m_461 m_463 m_17 m_33 m_464) rfl rfl rfl hd_M_header ⟨Nat.le_of_ble_eq_true rfl, Nat.le_of_ble_eq_true rfl⟩) mW_w mX_x hB hP hS (ci := 3) rfl (0) rfl rfl hl.1 rfl (Nat.le_of_ble_eq_true rfl) d_M_fault_149 ⟨Nat.zero_le _, Nat.zero_le _⟩ (fun r_ v_ H locs hw hP hS => ?_)
                obtain ⟨hw1, hw2⟩ := hw; have hw1 := hw1.symm; have hw2 := hw2.symm; subst hw1; subst hw2
                refine lv_i2l hx hb d_M_fault_152 rfl ?_
                refine W.lcmp hx hb d_M_fault_153 ?_
                refine lv_if_eq (tgt := 159) hx hb d_M_fault_154 (by decide) (fun c_154 => ?_) (fun c_154 => ?_)
                · have c_154 := (lg_cmp_eq _ _).mp c_154
                  refine lv_aload_n hx hb d_M_fault_159 rfl (lv_at hl 2 rfl) ?_
                  refine va_get (D := D) (ci := 3) (v := .ref (k 1)) (C := R_M) (T := F_M) (N := 4) hx hb hts (fun w h => .tail _ (fi_M w h)) hown hK hP 0 rfl rfl 1 (by decide) (hts _ (.tail _ m_405)) (fun _ h9 => h9) rfl d_M_fault_160 ?_
                  refine lv_iload_n hx hb d_M_fault_163 rfl (lv_at hl 1 rfl) ?_
                  refine lv_bipush (v := nI 32) hx hb d_M_fault_164 rfl ?_
                  refine lv_iaddN hx hb d_M_fault_166 ?_
                  refine lv_bipush (v := nI 8) hx hb d_M_fault_167 rfl ?_
                  refine g_callSl (As := [.ref (k 1), .int (nI ((cHd n j) + 32)), .int (nI (8))]) (rest := []) ⟨hx, hb, hml, hown, hts⟩ (index := 53) (c_M_get l D k cI n A hn hn2 (mU (d) (t) (mk)) (1) (by omega) (by omega) ((cHd n j) + 32) (8) (by omega)) (cwS 3 hts (gd_S m_450 m_451 m_33 m_452) rfl rfl rfl hd_M_get ⟨Nat.le_of_ble_eq_true rfl, Nat.le_of_ble_eq_true rfl⟩) mW_w mX_x hB hP hS rfl hl.1 rfl (Nat.le_of_ble_eq_true rfl) d_M_fault_169 ⟨Nat.zero_le _, Nat.zero_le _⟩ (fun r_ v_ H locs hw hP hS => ?_)
                  obtain ⟨hw1, hw2⟩ := hw; have hw1 : r_ = (num (d) ((cHd n j) + 32) 8) := hw1; have hw1 := hw1.symm; have hw2 := hw2.symm; subst hw1; subst hw2
                  refine lv_aload_n hx hb d_M_fault_172 rfl (lv_at hl 2 rfl) ?_
                  refine lv_iconst (v := nI 1) hx hb d_M_fault_173 rfl ?_
                  refine lv_iload_n hx hb d_M_fault_174 rfl (lv_at hl 3 rfl) ?_
                  refine lv_isubN hx hb d_M_fault_175 (by omega) ?_
                  refine g_callVi (As := [.int (nI (1 - j))]) (rest := [.long (num (d) ((cHd n j) + 32) 8)]) ⟨hx, hb, hml, hown, hts⟩ (C := R_M) (index := 46) (c_M_header l D k cI n A hn hn2 (d) (t) (mk) (1 - j) (by omega)) (cwV 1 hts (gd_V m_461 m_463 m_17 m_33 m_464) rfl rfl rfl hd_M_header ⟨Nat.le_of_ble_eq_true rfl, Nat.le_of_ble_eq_true rfl⟩) mW_w mX_x hB hP hS (ci := 3) rfl (0) rfl rfl hl.1 rfl (Nat.le_of_ble_eq_true rfl) d_M_fault_176 ⟨Nat.zero_le _, Nat.zero_le _⟩ (fun r_ v_ H locs hw hP hS => ?_)
                  obtain ⟨hw1, hw2⟩ := hw; have hw1 := hw1.symm; have hw2 := hw2.symm; subst hw1; subst hw2
                  refine lv_eqi (congrArg nI (cOwn_1 hj)) ?_
                  refine lv_i2l hx hb d_M_fault_179 rfl ?_
                  refine W.lcmp hx hb d_M_fault_180 ?_
                  refine lv_if_ne (tgt := 293) hx hb d_M_fault_181 (by decide) (fun c_181 => ?_) (fun c_181 => ?_)
                  · have c_181 := fun z => c_181 ((lg_cmp_eq _ _).mpr z)
                    refine lv_iconst (v := nI 0) hx hb d_M_fault_293 rfl ?_
                    refine lv_istore_n (lv' := [(3, .int (nI (0))), (2, .int (nI (cHd n j))), (0, .ref (k 0)), (1, .int (nI (j)))]) hx hb d_M_fault_294 rfl hl (by decide) rfl (fun ls hl => ?_)
                    refine lv_iload_n hx hb d_M_fault_295 rfl (lv_at hl 0 rfl) ?_
                    refine lv_if_ne (tgt := 301) hx hb d_M_fault_296 (by decide) (fun c9 => absurd (by decide) c9) (fun _ => ?_)
                    refine lv_iconst (v := nI 5) hx hb d_M_fault_299 rfl ?_
                    exact g_iret (v := (nI (5))) hx hb hr hlk mW_w mX_x hB hP hS (⟨((cI_t (hsg)).trans ((cI_t (⟨c_64, c_83, c_100⟩)).trans ((cI_t (c_129)).trans ((cI_t (c_154)).trans (cI_f (fun z => c_181 z.1)))))).symm, rfl⟩) d_M_fault_300
                  · have c_181 := (lg_cmp_eq _ _).mp c_181
                    refine lv_aload_n hx hb d_M_fault_184 rfl (lv_at hl 2 rfl) ?_
                    refine va_get (D := D) (ci := 3) (v := .ref (k 1)) (C := R_M) (T := F_M) (N := 4) hx hb hts (fun w h => .tail _ (fi_M w h)) hown hK hP 0 rfl rfl 1 (by decide) (hts _ (.tail _ m_405)) (fun _ h9 => h9) rfl d_M_fault_185 ?_
                    refine lv_iload_n hx hb d_M_fault_188 rfl (lv_at hl 1 rfl) ?_
                    refine lv_bipush (v := nI 40) hx hb d_M_fault_189 rfl ?_
                    refine lv_iaddN hx hb d_M_fault_191 ?_
                    refine lv_bipush (v := nI 8) hx hb d_M_fault_192 rfl ?_
                    refine g_callSl (As := [.ref (k 1), .int (nI ((cHd n j) + 40)), .int (nI (8))]) (rest := []) ⟨hx, hb, hml, hown, hts⟩ (index := 53) (c_M_get l D k cI n A hn hn2 (mU (d) (t) (mk)) (1) (by omega) (by omega) ((cHd n j) + 40) (8) (by omega)) (cwS 3 hts (gd_S m_450 m_451 m_33 m_452) rfl rfl rfl hd_M_get ⟨Nat.le_of_ble_eq_true rfl, Nat.le_of_ble_eq_true rfl⟩) mW_w mX_x hB hP hS rfl hl.1 rfl (Nat.le_of_ble_eq_true rfl) d_M_fault_194 ⟨Nat.zero_le _, Nat.zero_le _⟩ (fun r_ v_ H locs hw hP hS => ?_)
                    obtain ⟨hw1, hw2⟩ := hw; have hw1 : r_ = (num (d) ((cHd n j) + 40) 8) := hw1; have hw1 := hw1.symm; have hw2 := hw2.symm; subst hw1; subst hw2
                    refine lv_ldc2 (v := 4) hx hb hown (hts _ (.tail _ m_470)) d_M_fault_197 ?_
                    refine W.lcmp hx hb d_M_fault_200 ?_
                    refine lv_if_ne (tgt := 293) hx hb d_M_fault_201 (by decide) (fun c_201 => ?_) (fun c_201 => ?_)
                    · have c_201 := fun z => c_201 ((lg_cmp_eq _ _).mpr z)
                      refine lv_iconst (v := nI 0) hx hb d_M_fault_293 rfl ?_
                      refine lv_istore_n (lv' := [(3, .int (nI (0))), (2, .int (nI (cHd n j))), (0, .ref (k 0)), (1, .int (nI (j)))]) hx hb d_M_fault_294 rfl hl (by decide) rfl (fun ls hl => ?_)
                      refine lv_iload_n hx hb d_M_fault_295 rfl (lv_at hl 0 rfl) ?_
                      refine lv_if_ne (tgt := 301) hx hb d_M_fault_296 (by decide) (fun c9 => absurd (by decide) c9) (fun _ => ?_)
                      refine lv_iconst (v := nI 5) hx hb d_M_fault_299 rfl ?_
                      exact g_iret (v := (nI (5))) hx hb hr hlk mW_w mX_x hB hP hS (⟨((cI_t (hsg)).trans ((cI_t (⟨c_64, c_83, c_100⟩)).trans ((cI_t (c_129)).trans ((cI_t (c_154)).trans (cI_f (fun z => c_201 z.2.1)))))).symm, rfl⟩) d_M_fault_300
                    · have c_201 := (lg_cmp_eq _ _).mp c_201
                      refine lv_aload_n hx hb d_M_fault_204 rfl (lv_at hl 2 rfl) ?_
                      refine va_get (D := D) (ci := 3) (v := .ref (k 1)) (C := R_M) (T := F_M) (N := 4) hx hb hts (fun w h => .tail _ (fi_M w h)) hown hK hP 0 rfl rfl 1 (by decide) (hts _ (.tail _ m_405)) (fun _ h9 => h9) rfl d_M_fault_205 ?_
                      refine lv_iload_n hx hb d_M_fault_208 rfl (lv_at hl 1 rfl) ?_
                      refine lv_bipush (v := nI 48) hx hb d_M_fault_209 rfl ?_
                      refine lv_iaddN hx hb d_M_fault_211 ?_
                      refine lv_bipush (v := nI 8) hx hb d_M_fault_212 rfl ?_
                      refine g_callSl (As := [.ref (k 1), .int (nI ((cHd n j) + 48)), .int (nI (8))]) (rest := []) ⟨hx, hb, hml, hown, hts⟩ (index := 53) (c_M_get l D k cI n A hn hn2 (mU (d) (t) (mk)) (1) (by omega) (by omega) ((cHd n j) + 48) (8) (by omega)) (cwS 3 hts (gd_S m_450 m_451 m_33 m_452) rfl rfl rfl hd_M_get ⟨Nat.le_of_ble_eq_true rfl, Nat.le_of_ble_eq_true rfl⟩) mW_w mX_x hB hP hS rfl hl.1 rfl (Nat.le_of_ble_eq_true rfl) d_M_fault_214 ⟨Nat.zero_le _, Nat.zero_le _⟩ (fun r_ v_ H locs hw hP hS => ?_)
                      obtain ⟨hw1, hw2⟩ := hw; have hw1 : r_ = (num (d) ((cHd n j) + 48) 8) := hw1; have hw1 := hw1.symm; have hw2 := hw2.symm; subst hw1; subst hw2
                      refine lv_aload_n hx hb d_M_fault_217 rfl (lv_at hl 2 rfl) ?_
                      refine va_get (D := D) (ci := 3) (v := .int (nI (n))) (C := R_M) (T := F_M) (N := 4) hx hb hts (fun w h => .tail _ (fi_M w h)) hown hK hP 0 rfl rfl 0 (by decide) (hts _ (.tail _ m_404)) (fun _ h9 => h9) rfl d_M_fault_218 ?_
                      refine lv_iconst (v := nI 4) hx hb d_M_fault_221 rfl ?_
                      refine lv_isubN hx hb d_M_fault_222 (by omega) ?_
                      refine lv_i2l hx hb d_M_fault_223 rfl ?_
                      refine W.lcmp hx hb d_M_fault_224 ?_
                      refine lv_if_ne (tgt := 293) hx hb d_M_fault_225 (by decide) (fun c_225 => ?_) (fun c_225 => ?_)
                      · have c_225 := fun z => c_225 ((lg_cmp_eq _ _).mpr z)
                        refine lv_iconst (v := nI 0) hx hb d_M_fault_293 rfl ?_
                        refine lv_istore_n (lv' := [(3, .int (nI (0))), (2, .int (nI (cHd n j))), (0, .ref (k 0)), (1, .int (nI (j)))]) hx hb d_M_fault_294 rfl hl (by decide) rfl (fun ls hl => ?_)
                        refine lv_iload_n hx hb d_M_fault_295 rfl (lv_at hl 0 rfl) ?_
                        refine lv_if_ne (tgt := 301) hx hb d_M_fault_296 (by decide) (fun c9 => absurd (by decide) c9) (fun _ => ?_)
                        refine lv_iconst (v := nI 5) hx hb d_M_fault_299 rfl ?_
                        exact g_iret (v := (nI (5))) hx hb hr hlk mW_w mX_x hB hP hS (⟨((cI_t (hsg)).trans ((cI_t (⟨c_64, c_83, c_100⟩)).trans ((cI_t (c_129)).trans ((cI_t (c_154)).trans (cI_f (fun z => c_225 z.2.2.1)))))).symm, rfl⟩) d_M_fault_300
                      · have c_225 := (lg_cmp_eq _ _).mp c_225
                        refine lv_aload_n hx hb d_M_fault_228 rfl (lv_at hl 2 rfl) ?_
                        refine va_get (D := D) (ci := 3) (v := .ref (k 1)) (C := R_M) (T := F_M) (N := 4) hx hb hts (fun w h => .tail _ (fi_M w h)) hown hK hP 0 rfl rfl 1 (by decide) (hts _ (.tail _ m_405)) (fun _ h9 => h9) rfl d_M_fault_229 ?_
                        refine lv_iload_n hx hb d_M_fault_232 rfl (lv_at hl 1 rfl) ?_
                        refine lv_bipush (v := nI 72) hx hb d_M_fault_233 rfl ?_
                        refine lv_iaddN hx hb d_M_fault_235 ?_
                        refine lv_bipush (v := nI 8) hx hb d_M_fault_236 rfl ?_
                        refine g_callSl (As := [.ref (k 1), .int (nI ((cHd n j) + 72)), .int (nI (8))]) (rest := []) ⟨hx, hb, hml, hown, hts⟩ (index := 53) (c_M_get l D k cI n A hn hn2 (mU (d) (t) (mk)) (1) (by omega) (by omega) ((cHd n j) + 72) (8) (by omega)) (cwS 3 hts (gd_S m_450 m_451 m_33 m_452) rfl rfl rfl hd_M_get ⟨Nat.le_of_ble_eq_true rfl, Nat.le_of_ble_eq_true rfl⟩) mW_w mX_x hB hP hS rfl hl.1 rfl (Nat.le_of_ble_eq_true rfl) d_M_fault_238 ⟨Nat.zero_le _, Nat.zero_le _⟩ (fun r_ v_ H locs hw hP hS => ?_)
                        obtain ⟨hw1, hw2⟩ := hw; have hw1 : r_ = (num (d) ((cHd n j) + 72) 8) := hw1; have hw1 := hw1.symm; have hw2 := hw2.symm; subst hw1; subst hw2
                        refine lv_aload_n hx hb d_M_fault_241 rfl (lv_at hl 2 rfl) ?_
                        refine lv_iload_n hx hb d_M_fault_242 rfl (lv_at hl 3 rfl) ?_
                        refine g_callVi (As := [.int (nI (j))]) (rest := [.long (num (d) ((cHd n j) + 72) 8)]) ⟨hx, hb, hml, hown, hts⟩ (C := R_M) (index := 50) (c_M_array l D k cI n A hn hn2 (d) (t) (mk) (j) hj) (cwV 1 hts (gd_V m_471 m_473 m_18 m_33 m_474) rfl rfl rfl hd_M_array ⟨Nat.le_of_ble_eq_true rfl, Nat.le_of_ble_eq_true rfl⟩) mW_w mX_x hB hP hS (ci := 3) rfl (0) rfl rfl hl.1 rfl (Nat.le_of_ble_eq_true rfl) d_M_fault_243 ⟨Nat.zero_le _, Nat.zero_le _⟩ (fun r_ v_ H locs hw hP hS => ?_)
                        obtain ⟨hw1, hw2⟩ := hw; have hw1 := hw1.symm; have hw2 := hw2.symm; subst hw1; subst hw2
                        refine lv_i2l hx hb d_M_fault_246 rfl ?_
                        refine W.lcmp hx hb d_M_fault_247 ?_
                        refine lv_if_ne (tgt := 293) hx hb d_M_fault_248 (by decide) (fun c_248 => ?_) (fun c_248 => ?_)
                        · have c_248 := fun z => c_248 ((lg_cmp_eq _ _).mpr z)
                          refine lv_iconst (v := nI 0) hx hb d_M_fault_293 rfl ?_
                          refine lv_istore_n (lv' := [(3, .int (nI (0))), (2, .int (nI (cHd n j))), (0, .ref (k 0)), (1, .int (nI (j)))]) hx hb d_M_fault_294 rfl hl (by decide) rfl (fun ls hl => ?_)
                          refine lv_iload_n hx hb d_M_fault_295 rfl (lv_at hl 0 rfl) ?_
                          refine lv_if_ne (tgt := 301) hx hb d_M_fault_296 (by decide) (fun c9 => absurd (by decide) c9) (fun _ => ?_)
                          refine lv_iconst (v := nI 5) hx hb d_M_fault_299 rfl ?_
                          exact g_iret (v := (nI (5))) hx hb hr hlk mW_w mX_x hB hP hS (⟨((cI_t (hsg)).trans ((cI_t (⟨c_64, c_83, c_100⟩)).trans ((cI_t (c_129)).trans ((cI_t (c_154)).trans (cI_f (fun z => c_248 z.2.2.2.1)))))).symm, rfl⟩) d_M_fault_300
                        · have c_248 := (lg_cmp_eq _ _).mp c_248
                          refine lv_aload_n hx hb d_M_fault_251 rfl (lv_at hl 2 rfl) ?_
                          refine va_get (D := D) (ci := 3) (v := .ref (k 1)) (C := R_M) (T := F_M) (N := 4) hx hb hts (fun w h => .tail _ (fi_M w h)) hown hK hP 0 rfl rfl 1 (by decide) (hts _ (.tail _ m_405)) (fun _ h9 => h9) rfl d_M_fault_252 ?_
                          refine lv_iload_n hx hb d_M_fault_255 rfl (lv_at hl 1 rfl) ?_
                          refine lv_bipush (v := nI 80) hx hb d_M_fault_256 rfl ?_
                          refine lv_iaddN hx hb d_M_fault_258 ?_
                          refine lv_iconst (v := nI 4) hx hb d_M_fault_259 rfl ?_
                          refine g_callSl (As := [.ref (k 1), .int (nI ((cHd n j) + 80)), .int (nI (4))]) (rest := []) ⟨hx, hb, hml, hown, hts⟩ (index := 53) (c_M_get l D k cI n A hn hn2 (mU (d) (t) (mk)) (1) (by omega) (by omega) ((cHd n j) + 80) (4) (by omega)) (cwS 3 hts (gd_S m_450 m_451 m_33 m_452) rfl rfl rfl hd_M_get ⟨Nat.le_of_ble_eq_true rfl, Nat.le_of_ble_eq_true rfl⟩) mW_w mX_x hB hP hS rfl hl.1 rfl (Nat.le_of_ble_eq_true rfl) d_M_fault_260 ⟨Nat.zero_le _, Nat.zero_le _⟩ (fun r_ v_ H locs hw hP hS => ?_)
                          obtain ⟨hw1, hw2⟩ := hw; have hw1 : r_ = (num (d) ((cHd n j) + 80) 4) := hw1; have hw1 := hw1.symm; have hw2 := hw2.symm; subst hw1; subst hw2
                          refine lv_ldc2 (v := 8) hx hb hown (hts _ (.tail _ m_475)) d_M_fault_263 ?_
                          refine W.lcmp hx hb d_M_fault_266 ?_
                          refine lv_if_ne (tgt := 293) hx hb d_M_fault_267 (by decide) (fun c_267 => ?_) (fun c_267 => ?_)
                          · have c_267 := fun z => c_267 ((lg_cmp_eq _ _).mpr z)
                            refine lv_iconst (v := nI 0) hx hb d_M_fault_293 rfl ?_
                            refine lv_istore_n (lv' := [(3, .int (nI (0))), (2, .int (nI (cHd n j))), (0, .ref (k 0)), (1, .int (nI (j)))]) hx hb d_M_fault_294 rfl hl (by decide) rfl (fun ls hl => ?_)
                            refine lv_iload_n hx hb d_M_fault_295 rfl (lv_at hl 0 rfl) ?_
                            refine lv_if_ne (tgt := 301) hx hb d_M_fault_296 (by decide) (fun c9 => absurd (by decide) c9) (fun _ => ?_)
                            refine lv_iconst (v := nI 5) hx hb d_M_fault_299 rfl ?_
                            exact g_iret (v := (nI (5))) hx hb hr hlk mW_w mX_x hB hP hS (⟨((cI_t (hsg)).trans ((cI_t (⟨c_64, c_83, c_100⟩)).trans ((cI_t (c_129)).trans ((cI_t (c_154)).trans (cI_f (fun z => c_267 z.2.2.2.2.1)))))).symm, rfl⟩) d_M_fault_300
                          · have c_267 := (lg_cmp_eq _ _).mp c_267
                            refine lv_aload_n hx hb d_M_fault_270 rfl (lv_at hl 2 rfl) ?_
                            refine va_get (D := D) (ci := 3) (v := .ref (k 1)) (C := R_M) (T := F_M) (N := 4) hx hb hts (fun w h => .tail _ (fi_M w h)) hown hK hP 0 rfl rfl 1 (by decide) (hts _ (.tail _ m_405)) (fun _ h9 => h9) rfl d_M_fault_271 ?_
                            refine lv_iload_n hx hb d_M_fault_274 rfl (lv_at hl 1 rfl) ?_
                            refine lv_bipush (v := nI 84) hx hb d_M_fault_275 rfl ?_
                            refine lv_iaddN hx hb d_M_fault_277 ?_
                            refine lv_iconst (v := nI 4) hx hb d_M_fault_278 rfl ?_
                            refine g_callSl (As := [.ref (k 1), .int (nI ((cHd n j) + 84)), .int (nI (4))]) (rest := []) ⟨hx, hb, hml, hown, hts⟩ (index := 53) (c_M_get l D k cI n A hn hn2 (mU (d) (t) (mk)) (1) (by omega) (by omega) ((cHd n j) + 84) (4) (by omega)) (cwS 3 hts (gd_S m_450 m_451 m_33 m_452) rfl rfl rfl hd_M_get ⟨Nat.le_of_ble_eq_true rfl, Nat.le_of_ble_eq_true rfl⟩) mW_w mX_x hB hP hS rfl hl.1 rfl (Nat.le_of_ble_eq_true rfl) d_M_fault_279 ⟨Nat.zero_le _, Nat.zero_le _⟩ (fun r_ v_ H locs hw hP hS => ?_)
                            obtain ⟨hw1, hw2⟩ := hw; have hw1 : r_ = (num (d) ((cHd n j) + 84) 4) := hw1; have hw1 := hw1.symm; have hw2 := hw2.symm; subst hw1; subst hw2
                            refine lv_ldc2 (v := 128) hx hb hown (hts _ (.tail _ m_476)) d_M_fault_282 ?_
                            refine W.lcmp hx hb d_M_fault_285 ?_
                            refine lv_if_ne (tgt := 293) hx hb d_M_fault_286 (by decide) (fun c_286 => ?_) (fun c_286 => ?_)
                            · have c_286 := fun z => c_286 ((lg_cmp_eq _ _).mpr z)
                              refine lv_iconst (v := nI 0) hx hb d_M_fault_293 rfl ?_
                              refine lv_istore_n (lv' := [(3, .int (nI (0))), (2, .int (nI (cHd n j))), (0, .ref (k 0)), (1, .int (nI (j)))]) hx hb d_M_fault_294 rfl hl (by decide) rfl (fun ls hl => ?_)
                              refine lv_iload_n hx hb d_M_fault_295 rfl (lv_at hl 0 rfl) ?_
                              refine lv_if_ne (tgt := 301) hx hb d_M_fault_296 (by decide) (fun c9 => absurd (by decide) c9) (fun _ => ?_)
                              refine lv_iconst (v := nI 5) hx hb d_M_fault_299 rfl ?_
                              exact g_iret (v := (nI (5))) hx hb hr hlk mW_w mX_x hB hP hS (⟨((cI_t (hsg)).trans ((cI_t (⟨c_64, c_83, c_100⟩)).trans ((cI_t (c_129)).trans ((cI_t (c_154)).trans (cI_f (fun z => c_286 z.2.2.2.2.2)))))).symm, rfl⟩) d_M_fault_300
                            · have c_286 := (lg_cmp_eq _ _).mp c_286
                              refine lv_iconst (v := nI 1) hx hb d_M_fault_289 rfl ?_
                              refine lv_goto (tgt := 294) hx hb d_M_fault_290 (by decide) ?_
                              refine lv_istore_n (lv' := [(3, .int (nI (1))), (2, .int (nI (cHd n j))), (0, .ref (k 0)), (1, .int (nI (j)))]) hx hb d_M_fault_294 rfl hl (by decide) rfl (fun ls hl => ?_)
                              refine lv_iload_n hx hb d_M_fault_295 rfl (lv_at hl 0 rfl) ?_
                              refine lv_if_ne (tgt := 301) hx hb d_M_fault_296 (by decide) (fun _ => ?_) (fun c9 => absurd c9 (by decide))
                              refine lv_aload_n hx hb d_M_fault_301 rfl (lv_at hl 2 rfl) ?_
                              refine va_get (D := D) (ci := 3) (v := .ref (k 1)) (C := R_M) (T := F_M) (N := 4) hx hb hts (fun w h => .tail _ (fi_M w h)) hown hK hP 0 rfl rfl 1 (by decide) (hts _ (.tail _ m_405)) (fun _ h9 => h9) rfl d_M_fault_302 ?_
                              refine lv_iload_n hx hb d_M_fault_305 rfl (lv_at hl 1 rfl) ?_
                              refine lv_bipush (v := nI 88) hx hb d_M_fault_306 rfl ?_
                              refine lv_iaddN hx hb d_M_fault_308 ?_
                              refine lv_iconst (v := nI 4) hx hb d_M_fault_309 rfl ?_
                              refine g_callSl (As := [.ref (k 1), .int (nI ((cHd n j) + 88)), .int (nI (4))]) (rest := []) ⟨hx, hb, hml, hown, hts⟩ (index := 53) (c_M_get l D k cI n A hn hn2 (mU (d) (t) (mk)) (1) (by omega) (by omega) ((cHd n j) + 88) (4) (by omega)) (cwS 3 hts (gd_S m_450 m_451 m_33 m_452) rfl rfl rfl hd_M_get ⟨Nat.le_of_ble_eq_true rfl, Nat.le_of_ble_eq_true rfl⟩) mW_w mX_x hB hP hS rfl hl.1 rfl (Nat.le_of_ble_eq_true rfl) d_M_fault_310 ⟨Nat.zero_le _, Nat.zero_le _⟩ (fun r_ v_ H locs hw hP hS => ?_)
                              obtain ⟨hw1, hw2⟩ := hw; have hw1 : r_ = (num (d) ((cHd n j) + 88) 4) := hw1; have hw1 := hw1.symm; have hw2 := hw2.symm; subst hw1; subst hw2
                              refine lv_l2i hx hb d_M_fault_313 rfl ?_
                              refine lv_aload_n hx hb d_M_fault_314 rfl (lv_at hl 2 rfl) ?_
                              refine lv_aload_n hx hb d_M_fault_315 rfl (lv_at hl 2 rfl) ?_
                              refine lv_iload_n hx hb d_M_fault_316 rfl (lv_at hl 3 rfl) ?_
                              refine g_callVi (As := [.int (nI (j))]) (rest := [.ref (k 0), .int ((num (d) ((cHd n j) + 88) 4).toInt32)]) ⟨hx, hb, hml, hown, hts⟩ (C := R_M) (index := 96) (c_M_arrayAt l D k cI n A hn hn2 (d) (t) (mk) (j) hj) (cwV 1 hts (gd_V m_477 m_479 m_19 m_33 m_480) rfl rfl rfl hd_M_arrayAt ⟨Nat.le_of_ble_eq_true rfl, Nat.le_of_ble_eq_true rfl⟩) mW_w mX_x hB hP hS (ci := 3) rfl (0) rfl rfl hl.1 rfl (Nat.le_of_ble_eq_true rfl) d_M_fault_317 ⟨Nat.zero_le _, Nat.zero_le _⟩ (fun r_ v_ H locs hw hP hS => ?_)
                              obtain ⟨hw1, hw2⟩ := hw; have hw1 := hw1.symm; have hw2 := hw2.symm; subst hw1; subst hw2
                              refine lv_sipush (v := nI 1024) hx hb d_M_fault_320 rfl ?_
                              refine lv_iconst (v := -1) hx hb d_M_fault_323 rfl ?_
                              refine g_callVi (As := [.int (nI (cAr n j)), .int (nI (1024)), .int (-1)]) (rest := [.int ((num (d) ((cHd n j) + 88) 4).toInt32)]) ⟨hx, hb, hml, hown, hts⟩ (C := R_M) (index := 42) (c_M_sumOf0 l D k cI n A hn hn2 (d) (t) (mk) (cAr n j) (1024) (by omega)) (cwV 3 hts (gd_V m_438 m_440 m_15 m_33 m_441) rfl rfl rfl hd_M_sumOf ⟨Nat.le_of_ble_eq_true rfl, Nat.le_of_ble_eq_true rfl⟩) mW_w mX_x hB hP hS (ci := 3) rfl (0) rfl rfl hl.1 rfl (Nat.le_of_ble_eq_true rfl) d_M_fault_324 ⟨Nat.zero_le _, Nat.zero_le _⟩ (fun r_ v_ H locs hw hP hS => ?_)
                              obtain ⟨hw1, hw2⟩ := hw; have hw1 := hw1.symm; have hw2 := hw2.symm; subst hw1; subst hw2
                              refine lv_icmp_eq (tgt := 333) hx hb d_M_fault_327 (by decide) (fun c_327 => ?_) (fun c_327 => ?_)
                              · refine lv_aload_n hx hb d_M_fault_333 rfl (lv_at hl 2 rfl) ?_
                                refine lv_aload_n hx hb d_M_fault_334 rfl (lv_at hl 2 rfl) ?_
                                refine lv_iload_n hx hb d_M_fault_335 rfl (lv_at hl 3 rfl) ?_
                                refine g_callVi (As := [.int (nI (j))]) (rest := [.ref (k 0)]) ⟨hx, hb, hml, hown, hts⟩ (C := R_M) (index := 96) (c_M_arrayAt l D k cI n A hn hn2 (d) (t) (mk) (j) hj) (cwV 1 hts (gd_V m_477 m_479 m_19 m_33 m_480) rfl rfl rfl hd_M_arrayAt ⟨Nat.le_of_ble_eq_true rfl, Nat.le_of_ble_eq_true rfl⟩) mW_w mX_x hB hP hS (ci := 3) rfl (0) rfl rfl hl.1 rfl (Nat.le_of_ble_eq_true rfl) d_M_fault_336 ⟨Nat.zero_le _, Nat.zero_le _⟩ (fun r_ v_ H locs hw hP hS => ?_)
                                obtain ⟨hw1, hw2⟩ := hw; have hw1 := hw1.symm; have hw2 := hw2.symm; subst hw1; subst hw2
                                refine g_callVi (As := [.int (nI (cAr n j))]) (rest := []) ⟨hx, hb, hml, hown, hts⟩ (C := R_M) (index := 99) (c_M_badEntries l D k cI n A hn hn2 (d) (t) (mk) (cAr n j) (by omega)) (cwV 1 hts (gd_V m_481 m_483 m_20 m_33 m_484) rfl rfl rfl hd_M_badEntries ⟨Nat.le_of_ble_eq_true rfl, Nat.le_of_ble_eq_true rfl⟩) mW_w mX_x hB hP hS (ci := 3) rfl (0) rfl rfl hl.1 rfl (Nat.le_of_ble_eq_true rfl) d_M_fault_339 ⟨Nat.zero_le _, Nat.zero_le _⟩ (fun r_ v_ H locs hw hP hS => ?_)
                                obtain ⟨hw1, hw2⟩ := hw; have hw1 := hw1.symm; have hw2 := hw2.symm; subst hw1; subst hw2
                                refine lv_if_eq (tgt := 350) hx hb d_M_fault_342 (by decide) (fun c_342 => ?_) (fun c_342 => ?_)
                                · have c_342 := bI_0.mp c_342
                                  refine lv_iconst (v := nI 0) hx hb d_M_fault_350 rfl ?_
                                  exact g_iret (v := (nI (0))) hx hb hr hlk mW_w mX_x hB hP hS (⟨((cI_t (hsg)).trans ((cI_t (⟨c_64, c_83, c_100⟩)).trans ((cI_t (c_129)).trans ((cI_t (c_154)).trans ((cI_t (⟨c_181, c_201, c_225, c_248, c_267, c_286⟩)).trans ((cI_t (c_327)).trans (cI_t (Classical.not_not.mp c_342)))))))).symm, rfl⟩) d_M_fault_351
                                · have c_342 := bI_1 c_342
                                  refine lv_bipush (v := nI 7) hx hb d_M_fault_345 rfl ?_
                                  refine lv_goto (tgt := 351) hx hb d_M_fault_347 (by decide) ?_
                                  exact g_iret (v := (nI (7))) hx hb hr hlk mW_w mX_x hB hP hS (⟨((cI_t (hsg)).trans ((cI_t (⟨c_64, c_83, c_100⟩)).trans ((cI_t (c_129)).trans ((cI_t (c_154)).trans ((cI_t (⟨c_181, c_201, c_225, c_248, c_267, c_286⟩)).trans ((cI_t (c_327)).trans (cI_f (c_342)))))))).symm, rfl⟩) d_M_fault_351
                              · refine lv_bipush (v := nI 6) hx hb d_M_fault_330 rfl ?_
                                exact g_iret (v := (nI (6))) hx hb hr hlk mW_w mX_x hB hP hS (⟨((cI_t (hsg)).trans ((cI_t (⟨c_64, c_83, c_100⟩)).trans ((cI_t (c_129)).trans ((cI_t (c_154)).trans ((cI_t (⟨c_181, c_201, c_225, c_248, c_267, c_286⟩)).trans (cI_f (c_327))))))).symm, rfl⟩) d_M_fault_332
                · have c_154 := fun z => c_154 ((lg_cmp_eq _ _).mpr z)
                  refine lv_iconst (v := nI 4) hx hb d_M_fault_157 rfl ?_
                  exact g_iret (v := (nI (4))) hx hb hr hlk mW_w mX_x hB hP hS (⟨((cI_t (hsg)).trans ((cI_t (⟨c_64, c_83, c_100⟩)).trans ((cI_t (c_129)).trans (cI_f (c_154))))).symm, rfl⟩) d_M_fault_158
              · refine lv_iconst (v := nI 3) hx hb d_M_fault_132 rfl ?_
                exact g_iret (v := (nI (3))) hx hb hr hlk mW_w mX_x hB hP hS (⟨((cI_t (hsg)).trans ((cI_t (⟨c_64, c_83, c_100⟩)).trans (cI_f (c_129)))).symm, rfl⟩) d_M_fault_133
            · have c_100 := fun z => c_100 ((lg_cmp_eq _ _).mpr z)
              refine lv_iconst (v := nI 2) hx hb d_M_fault_103 rfl ?_
              exact g_iret (v := (nI (2))) hx hb hr hlk mW_w mX_x hB hP hS (⟨((cI_t (hsg)).trans (cI_f (fun z => c_100 z.2.2))).symm, rfl⟩) d_M_fault_104
      · have hik : i < 8 := ge_f (by omega) (by omega) c_22
        refine lv_aload_n hx hb d_M_fault_25 rfl (lv_at hl 2 rfl) ?_
        refine va_get (D := D) (ci := 3) (v := .ref (k 1)) (C := R_M) (T := F_M) (N := 4) hx hb hts (fun w h => .tail _ (fi_M w h)) hown hK hP 0 rfl rfl 1 (by decide) (hts _ (.tail _ m_405)) (fun _ h9 => h9) rfl d_M_fault_26 ?_
        refine lv_iload_n hx hb d_M_fault_29 rfl (lv_at hl 1 rfl) ?_
        refine lv_iload_n hx hb d_M_fault_30 rfl (lv_at hl 0 rfl) ?_
        refine lv_iaddN hx hb d_M_fault_31 ?_
        refine m_iald hx hb hB hP (i := 1) (by decide) (by decide) (a := (cHd n j) + i) (by omega) d_M_fault_32 ?_
        refine lv_iload_n hx hb d_M_fault_33 rfl (lv_at hl 0 rfl) ?_
        refine g_callSi (As := [.int (nI (i))]) (rest := [.int (zx (d ((cHd n j) + i)))]) ⟨hx, hb, hml, hown, hts⟩ (index := 85) (c_M_letterOf l D k cI n A hn hn2 (mU (d) (t) (mk)) (i) (by omega)) (cwS 1 hts (gd_S m_465 m_466 m_33 m_467) rfl rfl rfl hd_M_letterOf ⟨Nat.le_of_ble_eq_true rfl, Nat.le_of_ble_eq_true rfl⟩) mW_w mX_x hB hP hS rfl hl.1 rfl (Nat.le_of_ble_eq_true rfl) d_M_fault_34 ⟨Nat.zero_le _, Nat.zero_le _⟩ (fun r_ v_ H locs hw hP hS => ?_)
        obtain ⟨hw1, hw2⟩ := hw; have hw1 : r_ = (zx (byt 6075990659671082565 i)) := hw1; have hw1 := hw1.symm; have hw2 := hw2.symm; subst hw1; subst hw2
        refine lv_icmp_eq (tgt := 42) hx hb d_M_fault_37 (by decide) (fun c_37 => ?_) (fun c_37 => ?_)
        · refine lv_iinc (v := (nI (i + 1))) (lv' := [(3, .int (nI (i + 1))), (2, .int (nI (cHd n j))), (0, .ref (k 0)), (1, .int (nI (j)))]) hx hb d_M_fault_42 hl (k := 0) rfl (nI_add _ _) (by decide) rfl (fun ls hl => ?_)
          refine lv_goto (tgt := 19) hx hb d_M_fault_45 (by decide) ?_
          exact ih (i + 1) _ _ _ (by omega) (by omega) (lt_a hv (zx_inj.mp c_37)) hP hS (lv_sub hl [0, 1, 2, 3] rfl)
        · refine lv_iconst (v := nI 1) hx hb d_M_fault_40 rfl ?_
          exact g_iret (v := (nI (1))) hx hb hr hlk mW_w mX_x hB hP hS (⟨(cI_f (fun z => c_37 (zx_inj.mpr (sig_iff.mp z i hik)))).symm, rfl⟩) d_M_fault_41
  exact lp (8 + 1) 0 _ _ _ (Nat.zero_le _) (by omega) lt_0 hP hS (lv_sub hl [0, 1, 2, 3] rfl)
set_option maxHeartbeats 4000000 in
set_option maxRecDepth 100000 in
theorem c_M_fault (l : Launch) (D : va_G) (k : Nat → Nat) (cI : Nat → ClassId) (n : Nat) (A : Nat → Prop) (hn : 12 ≤ n) (hn2 : n ≤ 24) (d t mk : Nat → BitVec 8) (x : Int32) : Met l y_M_fault w_M_fault rm_M_fault (va_Pc [.ref (k 0), .int (x)] (mB D k cI n A (mU d t mk))) (va_Qi (fun r v => r = faR n d x ∧ mO d v) (mB D k cI n A) A) 0 0 A := by
  by_cases hin : inR x 2
  · obtain ⟨j, hj, rfl⟩ := inR_ex (by decide) hin
    exact met_i (c_M_faultJ l D k cI n A hn hn2 d t mk j hj) (fun r v hp => ⟨by rw [faR, cI_t hin, cl_nI (by omega)]; exact hp.1, _, _, hp.2⟩)
  refine g_ofW (cc := b_M_fault) (maxL := 4) (ret := (some .int)) (by decide) rfl (Nat.le_of_ble_eq_true rfl) ?_
  intro p e s m below meth c ls hx hb hml hr hlk hown hts hnm hB hl
  have hown : s.vm.findClass R_M = some m.cls := hown
  have hP := hB.1
  have hK := hB.2.1
  obtain ⟨H, hH⟩ : ∃ H, H = s.heap := ⟨_, rfl⟩
  have hS : va_S A s.heap H [] := by rw [hH]; exact va_S.rf
  rw [← hH] at hP ⊢
  have hl : lv_has ls 4 [(0, .ref (k 0)), (1, .int (x))] := hl
  have z1 : mSz 1 = 12288 := rfl
  have z2 : mSz 2 = 1024 := rfl
  have z3 : mSz 3 = 16 := rfl
  refine lv_iload_n hx hb d_M_fault_0 rfl (lv_at hl 1 rfl) ?_
  refine lv_if_lt (tgt := 9) hx hb d_M_fault_1 (by decide) (fun c_1 => ?_) (fun c_1 => ?_)
  · refine lv_iconst (v := -1) hx hb d_M_fault_9 rfl ?_
    exact g_iret (v := (-1)) hx hb hr hlk mW_w mX_x hB hP hS (⟨(cI_f hin).symm, _, _, rfl⟩) d_M_fault_10
  · refine lv_iload_n hx hb d_M_fault_4 rfl (lv_at hl 1 rfl) ?_
    refine lv_iconst (v := nI 1) hx hb d_M_fault_5 rfl ?_
    refine lv_icmp_le (tgt := 11) hx hb d_M_fault_6 (by decide) (fun c_6 => ?_) (fun c_6 => ?_)
    · exact absurd (le_in2 c_1 c_6) hin
    · refine lv_iconst (v := -1) hx hb d_M_fault_9 rfl ?_
      exact g_iret (v := (-1)) hx hb hr hlk mW_w mX_x hB hP hS (⟨(cI_f hin).symm, _, _, rfl⟩) d_M_fault_10
set_option maxHeartbeats 4000000 in
set_option maxRecDepth 100000 in
theorem c_M_seal (l : Launch) (D : va_G) (k : Nat → Nat) (cI : Nat → ClassId) (n : Nat) (A : Nat → Prop) (hn : 12 ≤ n) (hn2 : n ≤ 24) (d t mk : Nat → BitVec 8) (x : Int32) : Met l y_M_seal w_M_seal rm_M_seal (va_Pc [.ref (k 0), .int (x)] (mB D k cI n A (mU d t mk))) (va_Qi (fun r v => r = (seR n d x).1 ∧ mO (seR n d x).2 v) (mB D k cI n A) A) 0 0 A := by
  by_cases hin : inR x 2
  · obtain ⟨j, hj, rfl⟩ := inR_ex (by decide) hin
    exact met_i (c_M_sealJ l D k cI n A hn hn2 d t mk j hj) (fun r v hp => by rw [seR, cI_t hin, cl_nI (by omega)]; exact ⟨hp.1, _, _, hp.2⟩)
  refine g_ofW (cc := b_M_seal) (maxL := 3) (ret := (some .boolean)) (by decide) rfl (Nat.le_of_ble_eq_true rfl) ?_
  intro p e s m below meth c ls hx hb hml hr hlk hown hts hnm hB hl
  have hown : s.vm.findClass R_M = some m.cls := hown
  have hP := hB.1
  have hK := hB.2.1
  obtain ⟨H, hH⟩ : ∃ H, H = s.heap := ⟨_, rfl⟩
  have hS : va_S A s.heap H [] := by rw [hH]; exact va_S.rf
  rw [← hH] at hP ⊢
  have hl : lv_has ls 3 [(0, .ref (k 0)), (1, .int (x))] := hl
  have z1 : mSz 1 = 12288 := rfl
  have z2 : mSz 2 = 1024 := rfl
  have z3 : mSz 3 = 16 := rfl
  refine lv_iload_n hx hb d_M_seal_0 rfl (lv_at hl 1 rfl) ?_
  refine lv_if_lt (tgt := 9) hx hb d_M_seal_1 (by decide) (fun c_1 => ?_) (fun c_1 => ?_)
  · refine lv_iconst (v := nI 0) hx hb d_M_seal_9 rfl ?_
    exact g_zret (v := (nI (0))) hx hb hr (rfl) hlk mW_w mX_x hB hP hS (by rw [seR, cI_f hin]; exact ⟨rfl, _, _, rfl⟩) d_M_seal_10
  · refine lv_iload_n hx hb d_M_seal_4 rfl (lv_at hl 1 rfl) ?_
    refine lv_iconst (v := nI 1) hx hb d_M_seal_5 rfl ?_
    refine lv_icmp_le (tgt := 11) hx hb d_M_seal_6 (by decide) (fun c_6 => ?_) (fun c_6 => ?_)
    · exact absurd (le_in2 c_1 c_6) hin
    · refine lv_iconst (v := nI 0) hx hb d_M_seal_9 rfl ?_
      exact g_zret (v := (nI (0))) hx hb hr (rfl) hlk mW_w mX_x hB hP hS (by rw [seR, cI_f hin]; exact ⟨rfl, _, _, rfl⟩) d_M_seal_10
abbrev w_M_source : List Cond := .code y_M_source b_M_source 1 (some .int) :: ALL
abbrev rm_M_source : Room := { frames := 4, cells := 0, slots := 0, locals := 98 }
theorem hd_M_source : y_M_source.cls = R_M ∧ y_M_source.cls ≠ "java/lang/invoke/MethodHandle" ∧ y_M_source.cls ≠ "java/lang/invoke/VarHandle" ∧ (parseMethodDescriptor y_M_source.desc).map (fun d => d.parameters.length) = some 0 := by decide +kernel
set_option maxHeartbeats 4000000 in
set_option maxRecDepth 100000 in
theorem c_M_source (l : Launch) (D : va_G) (k : Nat → Nat) (cI : Nat → ClassId) (n : Nat) (A : Nat → Prop) (hn : 12 ≤ n) (hn2 : n ≤ 24) (d t mk : Nat → BitVec 8)  : Met l y_M_source w_M_source rm_M_source (va_Pc [.ref (k 0)] (mB D k cI n A (mU d t mk))) (va_Qi (fun r v => r = oS (src n d) (-1) nI ∧ v = mU d t mk) (mB D k cI n A) A) 0 0 A := by
  refine g_ofW (cc := b_M_source) (maxL := 1) (ret := (some .int)) (by decide) rfl (Nat.le_of_ble_eq_true rfl) ?_
  intro p e s m below meth c ls hx hb hml hr hlk hown hts hnm hB hl
  have hown : s.vm.findClass R_M = some m.cls := hown
  have hP := hB.1
  have hK := hB.2.1
  obtain ⟨H, hH⟩ : ∃ H, H = s.heap := ⟨_, rfl⟩
  have hS : va_S A s.heap H [] := by rw [hH]; exact va_S.rf
  rw [← hH] at hP ⊢
  have hl : lv_has ls 1 [(0, .ref (k 0))] := hl
  have z1 : mSz 1 = 12288 := rfl
  have z2 : mSz 2 = 1024 := rfl
  have z3 : mSz 3 = 16 := rfl
  refine lv_aload_n hx hb d_M_source_0 rfl (lv_at hl 0 rfl) ?_
  refine lv_iconst (v := nI 0) hx hb d_M_source_1 rfl ?_
  refine g_callVi (As := [.int (nI (0))]) (rest := []) ⟨hx, hb, hml, hown, hts⟩ (C := R_M) (index := 103) (c_M_faultJ l D k cI n A hn hn2 (d) (t) (mk) (0) (by omega)) (cwV 1 hts (gd_V m_508 m_454 m_455 m_33 m_456) rfl rfl rfl hd_M_fault ⟨Nat.le_of_ble_eq_true rfl, Nat.le_of_ble_eq_true rfl⟩) mW_w mX_x hB hP hS (ci := 3) rfl (0) rfl rfl hl.1 rfl (Nat.le_of_ble_eq_true rfl) d_M_source_2 ⟨Nat.zero_le _, Nat.zero_le _⟩ (fun r_ v_ H locs hw hP hS => ?_)
  obtain ⟨hw1, hw2⟩ := hw; have hw1 := hw1.symm; have hw2 := hw2.symm; subst hw1; subst hw2
  refine lv_if_ne (tgt := 12) hx hb d_M_source_5 (by decide) (fun c_5 => ?_) (fun c_5 => ?_)
  · refine lv_aload_n hx hb d_M_source_12 rfl (lv_at hl 0 rfl) ?_
    refine lv_iconst (v := nI 1) hx hb d_M_source_13 rfl ?_
    refine g_callVi (As := [.int (nI (1))]) (rest := []) ⟨hx, hb, hml, hown, hts⟩ (C := R_M) (index := 103) (c_M_faultJ l D k cI n A hn hn2 (d) (t) (mk) (1) (by omega)) (cwV 1 hts (gd_V m_508 m_454 m_455 m_33 m_456) rfl rfl rfl hd_M_fault ⟨Nat.le_of_ble_eq_true rfl, Nat.le_of_ble_eq_true rfl⟩) mW_w mX_x hB hP hS (ci := 3) rfl (0) rfl rfl hl.1 rfl (Nat.le_of_ble_eq_true rfl) d_M_source_14 ⟨Nat.zero_le _, Nat.zero_le _⟩ (fun r_ v_ H locs hw hP hS => ?_)
    obtain ⟨hw1, hw2⟩ := hw; have hw1 := hw1.symm; have hw2 := hw2.symm; subst hw1; subst hw2
    refine lv_if_ne (tgt := 24) hx hb d_M_source_17 (by decide) (fun c_17 => ?_) (fun c_17 => ?_)
    · refine lv_iconst (v := -1) hx hb d_M_source_24 rfl ?_
      exact g_iret (v := (-1)) hx hb hr hlk mW_w mX_x hB hP hS (⟨(oS_n ((cI_f c_5).trans (cI_f c_17))).symm, rfl⟩) d_M_source_25
    · refine lv_iconst (v := nI 1) hx hb d_M_source_20 rfl ?_
      refine lv_goto (tgt := 25) hx hb d_M_source_21 (by decide) ?_
      exact g_iret (v := (nI (1))) hx hb hr hlk mW_w mX_x hB hP hS (⟨(oS_s (j := 1) ((cI_f c_5).trans (cI_t c_17))).symm, rfl⟩) d_M_source_25
  · refine lv_iconst (v := nI 0) hx hb d_M_source_8 rfl ?_
    refine lv_goto (tgt := 25) hx hb d_M_source_9 (by decide) ?_
    exact g_iret (v := (nI (0))) hx hb hr hlk mW_w mX_x hB hP hS (⟨(oS_s (j := 0) (cI_t c_5)).symm, rfl⟩) d_M_source_25
abbrev w_M_take : List Cond := .code y_M_take b_M_take 3 (some .boolean) :: ALL
abbrev rm_M_take : Room := { frames := 5, cells := 0, slots := 0, locals := 118 }
theorem hd_M_take : y_M_take.cls = R_M ∧ y_M_take.cls ≠ "java/lang/invoke/MethodHandle" ∧ y_M_take.cls ≠ "java/lang/invoke/VarHandle" ∧ (parseMethodDescriptor y_M_take.desc).map (fun d => d.parameters.length) = some 0 := by decide +kernel
set_option maxHeartbeats 4000000 in
set_option maxRecDepth 100000 in
theorem c_M_take (l : Launch) (D : va_G) (k : Nat → Nat) (cI : Nat → ClassId) (n : Nat) (A : Nat → Prop) (hn : 12 ≤ n) (hn2 : n ≤ 24) (d t mk : Nat → BitVec 8)  : Met l y_M_take w_M_take rm_M_take (va_Pc [.ref (k 0)] (mB D k cI n A (mU d t mk))) (va_Qi (fun r v => (∃ j, j < 2 ∧ src n d = some j ∧ r = nI 1 ∧ v = mU d (cpT d t (cAr n j) 1024) (cpT d mk (cHd n j + 56) 16)) ∨ (src n d = none ∧ r = nI 0 ∧ v = mU d t mk)) (mB D k cI n A) A) 0 0 A := by
  refine g_ofW (cc := b_M_take) (maxL := 3) (ret := (some .boolean)) (by decide) rfl (Nat.le_of_ble_eq_true rfl) ?_
  intro p e s m below meth c ls hx hb hml hr hlk hown hts hnm hB hl
  have hown : s.vm.findClass R_M = some m.cls := hown
  have hP := hB.1
  have hK := hB.2.1
  obtain ⟨H, hH⟩ : ∃ H, H = s.heap := ⟨_, rfl⟩
  have hS : va_S A s.heap H [] := by rw [hH]; exact va_S.rf
  rw [← hH] at hP ⊢
  have hl : lv_has ls 3 [(0, .ref (k 0))] := hl
  have z1 : mSz 1 = 12288 := rfl
  have z2 : mSz 2 = 1024 := rfl
  have z3 : mSz 3 = 16 := rfl
  refine lv_aload_n hx hb d_M_take_0 rfl (lv_at hl 0 rfl) ?_
  refine g_callVi (As := []) (rest := []) ⟨hx, hb, hml, hown, hts⟩ (C := R_M) (index := 106) (c_M_source l D k cI n A hn hn2 (d) (t) (mk) ) (cwV 0 hts (gd_V m_547 m_505 m_506 m_33 m_507) rfl rfl rfl hd_M_source ⟨Nat.le_of_ble_eq_true rfl, Nat.le_of_ble_eq_true rfl⟩) mW_w mX_x hB hP hS (ci := 3) rfl (0) rfl rfl hl.1 rfl (Nat.le_of_ble_eq_true rfl) d_M_take_1 ⟨Nat.zero_le _, Nat.zero_le _⟩ (fun r_ v_ H locs hw hP hS => ?_)
  obtain ⟨hw1, hw2⟩ := hw; have hw1 := hw1.symm; have hw2 := hw2.symm; subst hw1; subst hw2
  refine lv_istore_n (lv' := [(1, .int (oS (src n d) (-1) nI)), (0, .ref (k 0))]) hx hb d_M_take_4 rfl hl (by decide) rfl (fun ls hl => ?_)
  refine lv_iload_n hx hb d_M_take_5 rfl (lv_at hl 0 rfl) ?_
  refine lv_iconst (v := -1) hx hb d_M_take_6 rfl ?_
  refine lv_icmp_ne (tgt := 12) hx hb d_M_take_7 (by decide) (fun c_7 => ?_) (fun c_7 => ?_)
  · obtain ⟨j, hj, hsr⟩ := src_ex c_7
    rw [show oS (src n d) (-1) nI = nI j from oS_s hsr] at hl
    have hHd := cHd_le hn hj
    have hAr := cAr_le hn hj
    refine lv_iconst (v := nI 0) hx hb d_M_take_12 rfl ?_
    refine lv_istore_n (lv' := [(2, .int (nI (0))), (1, .int (nI (j))), (0, .ref (k 0))]) hx hb d_M_take_13 rfl hl (by decide) rfl (fun ls hl => ?_)
    have hP : va_P D classes (mW k cI n (mU (d) (cpT d t (cAr n j) 0) (mk))) H := by rw [cpT_0]; exact hP
    have lp : ∀ (q : Nat) (i : Nat) (H : Heap) (locs : List Loc) (ls : Array Slot), (i ≤ 1024) → (1024 + 1 ≤ i + q) → va_P D classes (mW k cI n (mU (d) (cpT d t (cAr n j) i) (mk))) H → va_S A s.heap H locs → lv_has ls 3 [(2, .int (nI (i))), (1, .int (nI (j))), (0, .ref (k 0))] → W p l e rm_M_take s m ([.ref (k 0)] : List Value).toArray below meth c H locs 0 0 (MQ below (va_Qi (fun r v => (∃ j, j < 2 ∧ src n d = some j ∧ r = nI 1 ∧ v = mU d (cpT d t (cAr n j) 1024) (cpT d mk (cHd n j + 56) 16)) ∨ (src n d = none ∧ r = nI 0 ∧ v = mU d t mk)) (mB D k cI n A) A) ([.ref (k 0)] : List Value).toArray s 0 0 A) (F0 m 14 ls []) := by
      intro q
      induction q with
      | zero =>
        intro i H locs ls hi hq hP hS hl
        exact absurd hq (by omega)
      | succ q ih =>
        intro i H locs ls hi hq hP hS hl
        refine lv_iload_n hx hb d_M_take_14 rfl (lv_at hl 0 rfl) ?_
        refine lv_sipush (v := nI 1024) hx hb d_M_take_15 rfl ?_
        refine lv_icmp_ge (tgt := 45) hx hb d_M_take_18 (by decide) (fun c_18 => ?_) (fun c_18 => ?_)
        · have hik : i = 1024 := ge_t hi (by omega) c_18
          rw [hik] at hP
          refine lv_iconst (v := nI 0) hx hb d_M_take_45 rfl ?_
          refine lv_istore_n (lv' := [(2, .int (nI (0))), (1, .int (nI (j))), (0, .ref (k 0))]) hx hb d_M_take_46 rfl hl (by decide) rfl (fun ls hl => ?_)
          have hP : va_P D classes (mW k cI n (mU (d) (cpT d t (cAr n j) 1024) (cpT d mk (cHd n j + 56) 0))) H := by rw [cpT_0]; exact hP
          have lp2 : ∀ (q2 : Nat) (i : Nat) (H : Heap) (locs : List Loc) (ls : Array Slot), (i ≤ 16) → (16 + 1 ≤ i + q2) → va_P D classes (mW k cI n (mU (d) (cpT d t (cAr n j) 1024) (cpT d mk (cHd n j + 56) i))) H → va_S A s.heap H locs → lv_has ls 3 [(2, .int (nI (i))), (1, .int (nI (j))), (0, .ref (k 0))] → W p l e rm_M_take s m ([.ref (k 0)] : List Value).toArray below meth c H locs 0 0 (MQ below (va_Qi (fun r v => (∃ j, j < 2 ∧ src n d = some j ∧ r = nI 1 ∧ v = mU d (cpT d t (cAr n j) 1024) (cpT d mk (cHd n j + 56) 16)) ∨ (src n d = none ∧ r = nI 0 ∧ v = mU d t mk)) (mB D k cI n A) A) ([.ref (k 0)] : List Value).toArray s 0 0 A) (F0 m 47 ls []) := by
            intro q2
            induction q2 with
            | zero =>
              intro i H locs ls hi hq hP hS hl
              exact absurd hq (by omega)
            | succ q2 ih2 =>
              intro i H locs ls hi hq hP hS hl
              refine lv_iload_n hx hb d_M_take_47 rfl (lv_at hl 0 rfl) ?_
              refine lv_bipush (v := nI 16) hx hb d_M_take_48 rfl ?_
              refine lv_icmp_ge (tgt := 80) hx hb d_M_take_50 (by decide) (fun c_50 => ?_) (fun c_50 => ?_)
              · have hik : i = 16 := ge_t hi (by omega) c_50
                rw [hik] at hP
                refine lv_iconst (v := nI 1) hx hb d_M_take_80 rfl ?_
                exact g_zret (v := (nI (1))) hx hb hr (rfl) hlk mW_w mX_x hB hP hS (Or.inl ⟨j, hj, hsr, rfl, rfl⟩) d_M_take_81
              · have hik : i < 16 := ge_f (by omega) (by omega) c_50
                refine lv_aload_n hx hb d_M_take_53 rfl (lv_at hl 2 rfl) ?_
                refine va_get (D := D) (ci := 3) (v := .ref (k 3)) (C := R_M) (T := F_M) (N := 4) hx hb hts (fun w h => .tail _ (fi_M w h)) hown hK hP 0 rfl rfl 3 (by decide) (hts _ (.tail _ m_407)) (fun _ h9 => h9) rfl d_M_take_54 ?_
                refine lv_iload_n hx hb d_M_take_57 rfl (lv_at hl 0 rfl) ?_
                refine lv_aload_n hx hb d_M_take_58 rfl (lv_at hl 2 rfl) ?_
                refine va_get (D := D) (ci := 3) (v := .ref (k 1)) (C := R_M) (T := F_M) (N := 4) hx hb hts (fun w h => .tail _ (fi_M w h)) hown hK hP 0 rfl rfl 1 (by decide) (hts _ (.tail _ m_405)) (fun _ h9 => h9) rfl d_M_take_59 ?_
                refine lv_aload_n hx hb d_M_take_62 rfl (lv_at hl 2 rfl) ?_
                refine lv_iload_n hx hb d_M_take_63 rfl (lv_at hl 1 rfl) ?_
                refine g_callVi (As := [.int (nI (j))]) (rest := [.ref (k 1), .int (nI (i)), .ref (k 3)]) ⟨hx, hb, hml, hown, hts⟩ (C := R_M) (index := 82) (c_M_headerAt l D k cI n A hn hn2 (d) (cpT d t (cAr n j) 1024) (cpT d mk (cHd n j + 56) i) (j) hj) (cwV 1 hts (gd_V m_457 m_459 m_16 m_33 m_460) rfl rfl rfl hd_M_headerAt ⟨Nat.le_of_ble_eq_true rfl, Nat.le_of_ble_eq_true rfl⟩) mW_w mX_x hB hP hS (ci := 3) rfl (0) rfl rfl hl.1 rfl (Nat.le_of_ble_eq_true rfl) d_M_take_64 ⟨Nat.zero_le _, Nat.zero_le _⟩ (fun r_ v_ H locs hw hP hS => ?_)
                obtain ⟨hw1, hw2⟩ := hw; have hw1 := hw1.symm; have hw2 := hw2.symm; subst hw1; subst hw2
                refine lv_bipush (v := nI 56) hx hb d_M_take_67 rfl ?_
                refine lv_iaddN hx hb d_M_take_69 ?_
                refine lv_iload_n hx hb d_M_take_70 rfl (lv_at hl 0 rfl) ?_
                refine lv_iaddN hx hb d_M_take_71 ?_
                refine m_iald hx hb hB hP (i := 1) (by decide) (by decide) (a := ((cHd n j) + 56) + i) (by omega) d_M_take_72 ?_
                refine m_iast hx hb hB hP hS (i := 3) (by decide) (by decide) (a := i) (y := d (cHd n j + 56 + i)) (rfl) (by omega) d_M_take_73 (fun H locs hP hS => ?_)
                have hP : va_P D classes (mW k cI n (mU (d) (cpT d t (cAr n j) 1024) (va_up (cpT d mk (cHd n j + 56) i) i (d (cHd n j + 56 + i))))) H := by rw [mU_3] at hP; exact hP
                rw [cpT_s] at hP
                refine lv_iinc (v := (nI (i + 1))) (lv' := [(2, .int (nI (i + 1))), (1, .int (nI (j))), (0, .ref (k 0))]) hx hb d_M_take_74 hl (k := 0) rfl (nI_add _ _) (by decide) rfl (fun ls hl => ?_)
                refine lv_goto (tgt := 47) hx hb d_M_take_77 (by decide) ?_
                exact ih2 (i + 1) _ _ _ (by omega) (by omega) hP hS (lv_sub hl [0, 1, 2] rfl)
          exact lp2 (16 + 1) 0 _ _ _ (Nat.zero_le _) (by omega) hP hS (lv_sub hl [0, 1, 2] rfl)
        · have hik : i < 1024 := ge_f (by omega) (by omega) c_18
          refine lv_aload_n hx hb d_M_take_21 rfl (lv_at hl 2 rfl) ?_
          refine va_get (D := D) (ci := 3) (v := .ref (k 2)) (C := R_M) (T := F_M) (N := 4) hx hb hts (fun w h => .tail _ (fi_M w h)) hown hK hP 0 rfl rfl 2 (by decide) (hts _ (.tail _ m_406)) (fun _ h9 => h9) rfl d_M_take_22 ?_
          refine lv_iload_n hx hb d_M_take_25 rfl (lv_at hl 0 rfl) ?_
          refine lv_aload_n hx hb d_M_take_26 rfl (lv_at hl 2 rfl) ?_
          refine va_get (D := D) (ci := 3) (v := .ref (k 1)) (C := R_M) (T := F_M) (N := 4) hx hb hts (fun w h => .tail _ (fi_M w h)) hown hK hP 0 rfl rfl 1 (by decide) (hts _ (.tail _ m_405)) (fun _ h9 => h9) rfl d_M_take_27 ?_
          refine lv_aload_n hx hb d_M_take_30 rfl (lv_at hl 2 rfl) ?_
          refine lv_iload_n hx hb d_M_take_31 rfl (lv_at hl 1 rfl) ?_
          refine g_callVi (As := [.int (nI (j))]) (rest := [.ref (k 1), .int (nI (i)), .ref (k 2)]) ⟨hx, hb, hml, hown, hts⟩ (C := R_M) (index := 96) (c_M_arrayAt l D k cI n A hn hn2 (d) (cpT d t (cAr n j) i) (mk) (j) hj) (cwV 1 hts (gd_V m_477 m_479 m_19 m_33 m_480) rfl rfl rfl hd_M_arrayAt ⟨Nat.le_of_ble_eq_true rfl, Nat.le_of_ble_eq_true rfl⟩) mW_w mX_x hB hP hS (ci := 3) rfl (0) rfl rfl hl.1 rfl (Nat.le_of_ble_eq_true rfl) d_M_take_32 ⟨Nat.zero_le _, Nat.zero_le _⟩ (fun r_ v_ H locs hw hP hS => ?_)
          obtain ⟨hw1, hw2⟩ := hw; have hw1 := hw1.symm; have hw2 := hw2.symm; subst hw1; subst hw2
          refine lv_iload_n hx hb d_M_take_35 rfl (lv_at hl 0 rfl) ?_
          refine lv_iaddN hx hb d_M_take_36 ?_
          refine m_iald hx hb hB hP (i := 1) (by decide) (by decide) (a := (cAr n j) + i) (by omega) d_M_take_37 ?_
          refine m_iast hx hb hB hP hS (i := 2) (by decide) (by decide) (a := i) (y := d (cAr n j + i)) (rfl) (by omega) d_M_take_38 (fun H locs hP hS => ?_)
          have hP : va_P D classes (mW k cI n (mU (d) (va_up (cpT d t (cAr n j) i) i (d (cAr n j + i))) (mk))) H := by rw [mU_2] at hP; exact hP
          rw [cpT_s] at hP
          refine lv_iinc (v := (nI (i + 1))) (lv' := [(2, .int (nI (i + 1))), (1, .int (nI (j))), (0, .ref (k 0))]) hx hb d_M_take_39 hl (k := 0) rfl (nI_add _ _) (by decide) rfl (fun ls hl => ?_)
          refine lv_goto (tgt := 14) hx hb d_M_take_42 (by decide) ?_
          exact ih (i + 1) _ _ _ (by omega) (by omega) hP hS (lv_sub hl [0, 1, 2] rfl)
    exact lp (1024 + 1) 0 _ _ _ (Nat.zero_le _) (by omega) hP hS (lv_sub hl [0, 1, 2] rfl)
  · refine lv_iconst (v := nI 0) hx hb d_M_take_10 rfl ?_
    exact g_zret (v := (nI (0))) hx hb hr (rfl) hlk mW_w mX_x hB hP hS (Or.inr ⟨src_no c_7, rfl, rfl⟩) d_M_take_11
abbrev w_M_taken : List Cond := .code y_M_taken b_M_taken 7 (some .boolean) :: ALL
abbrev rm_M_taken : Room := { frames := 2, cells := 0, slots := 0, locals := 46 }
theorem hd_M_taken : y_M_taken.cls = R_M ∧ y_M_taken.cls ≠ "java/lang/invoke/MethodHandle" ∧ y_M_taken.cls ≠ "java/lang/invoke/VarHandle" ∧ (parseMethodDescriptor y_M_taken.desc).map (fun d => d.parameters.length) = some 3 := by decide +kernel
set_option maxHeartbeats 4000000 in
set_option maxRecDepth 100000 in
theorem c_M_taken (l : Launch) (D : va_G) (k : Nat → Nat) (cI : Nat → ClassId) (n : Nat) (A : Nat → Prop) (hn : 12 ≤ n) (hn2 : n ≤ 24) (d t mk : Nat → BitVec 8) (x0 y0 z0 : Int32) : Met l y_M_taken w_M_taken rm_M_taken (va_Pc [.ref (k 0), .int (x0), .int (y0), .int (z0)] (mB D k cI n A (mU d t mk))) (va_Qi (fun r v => r = bI (tak t 0 x0.toInt64 y0.toInt64 z0) ∧ v = mU d t mk) (mB D k cI n A) A) 0 0 A := by
  refine g_ofW (cc := b_M_taken) (maxL := 7) (ret := (some .boolean)) (by decide) rfl (Nat.le_of_ble_eq_true rfl) ?_
  intro p e s m below meth c ls hx hb hml hr hlk hown hts hnm hB hl
  have hown : s.vm.findClass R_M = some m.cls := hown
  have hP := hB.1
  have hK := hB.2.1
  obtain ⟨H, hH⟩ : ∃ H, H = s.heap := ⟨_, rfl⟩
  have hS : va_S A s.heap H [] := by rw [hH]; exact va_S.rf
  rw [← hH] at hP ⊢
  have hl : lv_has ls 7 [(0, .ref (k 0)), (1, .int (x0)), (2, .int (y0)), (3, .int (z0))] := hl
  have z1 : mSz 1 = 12288 := rfl
  have z2 : mSz 2 = 1024 := rfl
  have z3 : mSz 3 = 16 := rfl
  refine lv_iconst (v := nI 0) hx hb d_M_taken_0 rfl ?_
  refine lv_istore (lv' := [(4, .int (nI (0))), (0, .ref (k 0)), (1, .int (x0)), (2, .int (y0)), (3, .int (z0))]) hx hb d_M_taken_1 hl (by decide) rfl (fun ls hl => ?_)
  refine lv_iconst (v := nI 0) hx hb d_M_taken_3 rfl ?_
  refine lv_istore (lv' := [(5, .int (nI (0))), (4, .int (nI (0))), (0, .ref (k 0)), (1, .int (x0)), (2, .int (y0)), (3, .int (z0))]) hx hb d_M_taken_4 hl (by decide) rfl (fun ls hl => ?_)
  have lp : ∀ (q : Nat) (i : Nat) (x : Int32) (H : Heap) (locs : List Loc) (ls : Array Slot), (i ≤ 8) → (8 + 1 ≤ i + q) → (x = bI (∃ p, p < i ∧ tkQ t 0 x0.toInt64 y0.toInt64 z0 p)) → va_P D classes (mW k cI n (mU (d) (t) (mk))) H → va_S A s.heap H locs → lv_has ls 7 [(5, .int (nI (i))), (4, .int (x)), (0, .ref (k 0)), (1, .int (x0)), (2, .int (y0)), (3, .int (z0))] → W p l e rm_M_taken s m ([.ref (k 0), .int (x0), .int (y0), .int (z0)] : List Value).toArray below meth c H locs 0 0 (MQ below (va_Qi (fun r v => r = bI (tak t 0 x0.toInt64 y0.toInt64 z0) ∧ v = mU d t mk) (mB D k cI n A) A) ([.ref (k 0), .int (x0), .int (y0), .int (z0)] : List Value).toArray s 0 0 A) (F0 m 6 ls []) := by
    intro q
    induction q with
    | zero =>
      intro i x H locs ls hi hq hv hP hS hl
      exact absurd hq (by omega)
    | succ q ih =>
      intro i x H locs ls hi hq hv hP hS hl
      refine lv_iload hx hb d_M_taken_6 (lv_at hl 0 rfl) ?_
      refine lv_bipush (v := nI 8) hx hb d_M_taken_8 rfl ?_
      refine lv_icmp_ge (tgt := 87) hx hb d_M_taken_10 (by decide) (fun c_10 => ?_) (fun c_10 => ?_)
      · have hik : i = 8 := ge_t hi (by omega) c_10
        refine lv_iload hx hb d_M_taken_87 (lv_at hl 1 rfl) ?_
        exact g_zret (v := (x)) hx hb hr (by rw [hv]; exact bI_n _) hlk mW_w mX_x hB hP hS (⟨by rw [hv, hik]; rfl, rfl⟩) d_M_taken_89
      · have hik : i < 8 := ge_f (by omega) (by omega) c_10
        refine lv_sipush (v := nI 128) hx hb d_M_taken_13 rfl ?_
        refine lv_iload hx hb d_M_taken_16 (lv_at hl 0 rfl) ?_
        refine lv_imulC hx hb d_M_taken_18 ?_
        refine lv_z0 ?_
        refine lv_istore (lv' := [(6, .int (nI (0 + i * 128))), (5, .int (nI (i))), (4, .int (x)), (0, .ref (k 0)), (1, .int (x0)), (2, .int (y0)), (3, .int (z0))]) hx hb d_M_taken_19 hl (by decide) rfl (fun ls hl => ?_)
        refine lv_iload hx hb d_M_taken_21 (lv_at hl 2 rfl) ?_
        refine lv_if_ne (tgt := 74) hx hb d_M_taken_23 (by decide) (fun c_23 => ?_) (fun c_23 => ?_)
        · refine lv_iconst (v := nI 1) hx hb d_M_taken_74 rfl ?_
          refine lv_goto (tgt := 79) hx hb d_M_taken_75 (by decide) ?_
          refine lv_istore (lv' := [(4, .int (nI (1))), (6, .int (nI (0 + i * 128))), (5, .int (nI (i))), (0, .ref (k 0)), (1, .int (x0)), (2, .int (y0)), (3, .int (z0))]) hx hb d_M_taken_79 hl (by decide) rfl (fun ls hl => ?_)
          refine lv_iinc (v := (nI (i + 1))) (lv' := [(5, .int (nI (i + 1))), (4, .int (nI (1))), (6, .int (nI (0 + i * 128))), (0, .ref (k 0)), (1, .int (x0)), (2, .int (y0)), (3, .int (z0))]) hx hb d_M_taken_81 hl (k := 2) rfl (nI_add _ _) (by decide) rfl (fun ls hl => ?_)
          refine lv_goto (tgt := 6) hx hb d_M_taken_84 (by decide) ?_
          exact ih (i + 1) _ _ _ _ (by omega) (by omega) (bI_t (exS.mpr (Or.inl (bI_y hv c_23)))).symm hP hS (lv_sub hl [0, 1, 3, 4, 5, 6] rfl)
        · refine lv_iload hx hb d_M_taken_26 (lv_at hl 1 rfl) ?_
          refine lv_iload_n hx hb d_M_taken_28 rfl (lv_at hl 6 rfl) ?_
          refine lv_icmp_eq (tgt := 78) hx hb d_M_taken_29 (by decide) (fun c_29 => ?_) (fun c_29 => ?_)
          · refine lv_iconst (v := nI 0) hx hb d_M_taken_78 rfl ?_
            refine lv_istore (lv' := [(4, .int (nI (0))), (6, .int (nI (0 + i * 128))), (5, .int (nI (i))), (0, .ref (k 0)), (1, .int (x0)), (2, .int (y0)), (3, .int (z0))]) hx hb d_M_taken_79 hl (by decide) rfl (fun ls hl => ?_)
            refine lv_iinc (v := (nI (i + 1))) (lv' := [(5, .int (nI (i + 1))), (4, .int (nI (0))), (6, .int (nI (0 + i * 128))), (0, .ref (k 0)), (1, .int (x0)), (2, .int (y0)), (3, .int (z0))]) hx hb d_M_taken_81 hl (k := 2) rfl (nI_add _ _) (by decide) rfl (fun ls hl => ?_)
            refine lv_goto (tgt := 6) hx hb d_M_taken_84 (by decide) ?_
            exact ih (i + 1) _ _ _ _ (by omega) (by omega) (bI_f (fun z => (exS.mp z).elim (bI_x hv c_23) (fun w => w.1 c_29))).symm hP hS (lv_sub hl [0, 1, 3, 4, 5, 6] rfl)
          · refine lv_aload_n hx hb d_M_taken_32 rfl (lv_at hl 3 rfl) ?_
            refine va_get (D := D) (ci := 3) (v := .ref (k 2)) (C := R_M) (T := F_M) (N := 4) hx hb hts (fun w h => .tail _ (fi_M w h)) hown hK hP 0 rfl rfl 2 (by decide) (hts _ (.tail _ m_406)) (fun _ h9 => h9) rfl d_M_taken_33 ?_
            refine lv_iload hx hb d_M_taken_36 (lv_at hl 0 rfl) ?_
            refine g_callSi (As := [.ref (k 2), .int (nI (0 + i * 128))]) (rest := []) ⟨hx, hb, hml, hown, hts⟩ (index := 63) (c_M_isFree l D k cI n A hn hn2 (mU (d) (t) (mk)) (2) (by omega) (by omega) (0 + i * 128) (by omega)) (cwS 2 hts (gd_S m_485 m_486 m_33 m_487) rfl rfl rfl hd_M_isFree ⟨Nat.le_of_ble_eq_true rfl, Nat.le_of_ble_eq_true rfl⟩) mW_w mX_x hB hP hS rfl hl.1 rfl (Nat.le_of_ble_eq_true rfl) d_M_taken_38 ⟨Nat.zero_le _, Nat.zero_le _⟩ (fun r_ v_ H locs hw hP hS => ?_)
            obtain ⟨hw1, hw2⟩ := hw; have hw1 : r_ = (bI (isZ (t) (0 + i * 128) 16)) := hw1; have hw1 := hw1.symm; have hw2 := hw2.symm; subst hw1; subst hw2
            refine lv_if_ne (tgt := 78) hx hb d_M_taken_41 (by decide) (fun c_41 => ?_) (fun c_41 => ?_)
            · have c_41 := bI_1 c_41
              refine lv_iconst (v := nI 0) hx hb d_M_taken_78 rfl ?_
              refine lv_istore (lv' := [(4, .int (nI (0))), (6, .int (nI (0 + i * 128))), (5, .int (nI (i))), (0, .ref (k 0)), (1, .int (x0)), (2, .int (y0)), (3, .int (z0))]) hx hb d_M_taken_79 hl (by decide) rfl (fun ls hl => ?_)
              refine lv_iinc (v := (nI (i + 1))) (lv' := [(5, .int (nI (i + 1))), (4, .int (nI (0))), (6, .int (nI (0 + i * 128))), (0, .ref (k 0)), (1, .int (x0)), (2, .int (y0)), (3, .int (z0))]) hx hb d_M_taken_81 hl (k := 2) rfl (nI_add _ _) (by decide) rfl (fun ls hl => ?_)
              refine lv_goto (tgt := 6) hx hb d_M_taken_84 (by decide) ?_
              exact ih (i + 1) _ _ _ _ (by omega) (by omega) (bI_f (fun z => (exS.mp z).elim (bI_x hv c_23) (fun w => w.2.1 c_41))).symm hP hS (lv_sub hl [0, 1, 3, 4, 5, 6] rfl)
            · have c_41 := bI_0.mp c_41
              refine lv_aload_n hx hb d_M_taken_44 rfl (lv_at hl 3 rfl) ?_
              refine va_get (D := D) (ci := 3) (v := .ref (k 2)) (C := R_M) (T := F_M) (N := 4) hx hb hts (fun w h => .tail _ (fi_M w h)) hown hK hP 0 rfl rfl 2 (by decide) (hts _ (.tail _ m_406)) (fun _ h9 => h9) rfl d_M_taken_45 ?_
              refine lv_iload hx hb d_M_taken_48 (lv_at hl 0 rfl) ?_
              refine g_callSl (As := [.ref (k 2), .int (nI (0 + i * 128))]) (rest := []) ⟨hx, hb, hml, hown, hts⟩ (index := 67) (c_M_first l D k cI n A hn hn2 (mU (d) (t) (mk)) (2) (by omega) (by omega) (0 + i * 128) (by omega)) (cwS 2 hts (gd_S m_491 m_492 m_33 m_493) rfl rfl rfl hd_M_first ⟨Nat.le_of_ble_eq_true rfl, Nat.le_of_ble_eq_true rfl⟩) mW_w mX_x hB hP hS rfl hl.1 rfl (Nat.le_of_ble_eq_true rfl) d_M_taken_50 ⟨Nat.zero_le _, Nat.zero_le _⟩ (fun r_ v_ H locs hw hP hS => ?_)
              obtain ⟨hw1, hw2⟩ := hw; have hw1 : r_ = (num (t) ((0 + i * 128) + 32) 8) := hw1; have hw1 := hw1.symm; have hw2 := hw2.symm; subst hw1; subst hw2
              refine lv_iload_n hx hb d_M_taken_53 rfl (lv_at hl 5 rfl) ?_
              refine lv_i2l hx hb d_M_taken_54 rfl ?_
              refine W.lcmp hx hb d_M_taken_55 ?_
              refine lv_if_gt (tgt := 78) hx hb d_M_taken_56 (by decide) (fun c_56 => ?_) (fun c_56 => ?_)
              · have c_56 := (lg_cmp_gt _ _).mp c_56
                refine lv_iconst (v := nI 0) hx hb d_M_taken_78 rfl ?_
                refine lv_istore (lv' := [(4, .int (nI (0))), (6, .int (nI (0 + i * 128))), (5, .int (nI (i))), (0, .ref (k 0)), (1, .int (x0)), (2, .int (y0)), (3, .int (z0))]) hx hb d_M_taken_79 hl (by decide) rfl (fun ls hl => ?_)
                refine lv_iinc (v := (nI (i + 1))) (lv' := [(5, .int (nI (i + 1))), (4, .int (nI (0))), (6, .int (nI (0 + i * 128))), (0, .ref (k 0)), (1, .int (x0)), (2, .int (y0)), (3, .int (z0))]) hx hb d_M_taken_81 hl (k := 2) rfl (nI_add _ _) (by decide) rfl (fun ls hl => ?_)
                refine lv_goto (tgt := 6) hx hb d_M_taken_84 (by decide) ?_
                exact ih (i + 1) _ _ _ _ (by omega) (by omega) (bI_f (fun z => (exS.mp z).elim (bI_x hv c_23) (fun w => w.2.2.1 c_56))).symm hP hS (lv_sub hl [0, 1, 3, 4, 5, 6] rfl)
              · have c_56 := fun z => c_56 ((lg_cmp_gt _ _).mpr z)
                refine lv_iload_n hx hb d_M_taken_59 rfl (lv_at hl 4 rfl) ?_
                refine lv_i2l hx hb d_M_taken_60 rfl ?_
                refine lv_aload_n hx hb d_M_taken_61 rfl (lv_at hl 3 rfl) ?_
                refine va_get (D := D) (ci := 3) (v := .ref (k 2)) (C := R_M) (T := F_M) (N := 4) hx hb hts (fun w h => .tail _ (fi_M w h)) hown hK hP 0 rfl rfl 2 (by decide) (hts _ (.tail _ m_406)) (fun _ h9 => h9) rfl d_M_taken_62 ?_
                refine lv_iload hx hb d_M_taken_65 (lv_at hl 0 rfl) ?_
                refine g_callSl (As := [.ref (k 2), .int (nI (0 + i * 128))]) (rest := [.long ((x0).toInt64)]) ⟨hx, hb, hml, hown, hts⟩ (index := 71) (c_M_last l D k cI n A hn hn2 (mU (d) (t) (mk)) (2) (by omega) (by omega) (0 + i * 128) (by omega)) (cwS 2 hts (gd_S m_494 m_495 m_33 m_496) rfl rfl rfl hd_M_last ⟨Nat.le_of_ble_eq_true rfl, Nat.le_of_ble_eq_true rfl⟩) mW_w mX_x hB hP hS rfl hl.1 rfl (Nat.le_of_ble_eq_true rfl) d_M_taken_67 ⟨Nat.zero_le _, Nat.zero_le _⟩ (fun r_ v_ H locs hw hP hS => ?_)
                obtain ⟨hw1, hw2⟩ := hw; have hw1 : r_ = (num (t) ((0 + i * 128) + 40) 8) := hw1; have hw1 := hw1.symm; have hw2 := hw2.symm; subst hw1; subst hw2
                refine W.lcmp hx hb d_M_taken_70 ?_
                refine lv_if_gt (tgt := 78) hx hb d_M_taken_71 (by decide) (fun c_71 => ?_) (fun c_71 => ?_)
                · have c_71 := (lg_cmp_gt _ _).mp c_71
                  refine lv_iconst (v := nI 0) hx hb d_M_taken_78 rfl ?_
                  refine lv_istore (lv' := [(4, .int (nI (0))), (6, .int (nI (0 + i * 128))), (5, .int (nI (i))), (0, .ref (k 0)), (1, .int (x0)), (2, .int (y0)), (3, .int (z0))]) hx hb d_M_taken_79 hl (by decide) rfl (fun ls hl => ?_)
                  refine lv_iinc (v := (nI (i + 1))) (lv' := [(5, .int (nI (i + 1))), (4, .int (nI (0))), (6, .int (nI (0 + i * 128))), (0, .ref (k 0)), (1, .int (x0)), (2, .int (y0)), (3, .int (z0))]) hx hb d_M_taken_81 hl (k := 2) rfl (nI_add _ _) (by decide) rfl (fun ls hl => ?_)
                  refine lv_goto (tgt := 6) hx hb d_M_taken_84 (by decide) ?_
                  exact ih (i + 1) _ _ _ _ (by omega) (by omega) (bI_f (fun z => (exS.mp z).elim (bI_x hv c_23) (fun w => w.2.2.2 c_71))).symm hP hS (lv_sub hl [0, 1, 3, 4, 5, 6] rfl)
                · have c_71 := fun z => c_71 ((lg_cmp_gt _ _).mpr z)
                  refine lv_iconst (v := nI 1) hx hb d_M_taken_74 rfl ?_
                  refine lv_goto (tgt := 79) hx hb d_M_taken_75 (by decide) ?_
                  refine lv_istore (lv' := [(4, .int (nI (1))), (6, .int (nI (0 + i * 128))), (5, .int (nI (i))), (0, .ref (k 0)), (1, .int (x0)), (2, .int (y0)), (3, .int (z0))]) hx hb d_M_taken_79 hl (by decide) rfl (fun ls hl => ?_)
                  refine lv_iinc (v := (nI (i + 1))) (lv' := [(5, .int (nI (i + 1))), (4, .int (nI (1))), (6, .int (nI (0 + i * 128))), (0, .ref (k 0)), (1, .int (x0)), (2, .int (y0)), (3, .int (z0))]) hx hb d_M_taken_81 hl (k := 2) rfl (nI_add _ _) (by decide) rfl (fun ls hl => ?_)
                  refine lv_goto (tgt := 6) hx hb d_M_taken_84 (by decide) ?_
                  exact ih (i + 1) _ _ _ _ (by omega) (by omega) (bI_t (exS.mpr (Or.inr ⟨c_29, c_41, c_56, c_71⟩))).symm hP hS (lv_sub hl [0, 1, 3, 4, 5, 6] rfl)
  exact lp (8 + 1) 0 _ _ _ _ (Nat.zero_le _) (by omega) (bI_f (fun ⟨p, hp, _⟩ => absurd hp (Nat.not_lt_zero _))).symm hP hS (lv_sub hl [0, 1, 2, 3, 4, 5] rfl)
abbrev w_M_marked : List Cond := .code y_M_marked b_M_marked 7 (some .boolean) :: ALL
abbrev rm_M_marked : Room := { frames := 2, cells := 0, slots := 0, locals := 45 }
theorem hd_M_marked : y_M_marked.cls = R_M ∧ y_M_marked.cls ≠ "java/lang/invoke/MethodHandle" ∧ y_M_marked.cls ≠ "java/lang/invoke/VarHandle" ∧ (parseMethodDescriptor y_M_marked.desc).map (fun d => d.parameters.length) = some 1 := by decide +kernel
set_option maxHeartbeats 4000000 in
set_option maxRecDepth 100000 in
theorem c_M_marked (l : Launch) (D : va_G) (k : Nat → Nat) (cI : Nat → ClassId) (n : Nat) (A : Nat → Prop) (hn : 12 ≤ n) (hn2 : n ≤ 24) (d t mk : Nat → BitVec 8) (x0 : Int64) : Met l y_M_marked w_M_marked rm_M_marked (va_Pc [.ref (k 0), .long (x0)] (mB D k cI n A (mU d t mk))) (va_Qi (fun r v => r = bI (mkU t 0 x0 (gT x0)) ∧ v = mU d t mk) (mB D k cI n A) A) 0 0 A := by
  refine g_ofW (cc := b_M_marked) (maxL := 7) (ret := (some .boolean)) (by decide) rfl (Nat.le_of_ble_eq_true rfl) ?_
  intro p e s m below meth c ls hx hb hml hr hlk hown hts hnm hB hl
  have hown : s.vm.findClass R_M = some m.cls := hown
  have hP := hB.1
  have hK := hB.2.1
  obtain ⟨H, hH⟩ : ∃ H, H = s.heap := ⟨_, rfl⟩
  have hS : va_S A s.heap H [] := by rw [hH]; exact va_S.rf
  rw [← hH] at hP ⊢
  have hl : lv_has ls 7 [(0, .ref (k 0)), (1, .long (x0))] := hl
  have z1 : mSz 1 = 12288 := rfl
  have z2 : mSz 2 = 1024 := rfl
  have z3 : mSz 3 = 16 := rfl
  refine lv_iconst (v := nI 0) hx hb d_M_marked_0 rfl ?_
  refine lv_istore_n (lv' := [(3, .int (nI (0))), (0, .ref (k 0)), (1, .long (x0))]) hx hb d_M_marked_1 rfl hl (by decide) rfl (fun ls hl => ?_)
  refine lv_iconst (v := nI 0) hx hb d_M_marked_2 rfl ?_
  refine lv_istore (lv' := [(4, .int (nI (0))), (3, .int (nI (0))), (0, .ref (k 0)), (1, .long (x0))]) hx hb d_M_marked_3 hl (by decide) rfl (fun ls hl => ?_)
  have lp : ∀ (q : Nat) (i : Nat) (x : Int32) (H : Heap) (locs : List Loc) (ls : Array Slot), (i ≤ 8) → (8 + 1 ≤ i + q) → (x = bI (∃ p, p < i ∧ mkQ t 0 x0 (gT x0) p)) → va_P D classes (mW k cI n (mU (d) (t) (mk))) H → va_S A s.heap H locs → lv_has ls 7 [(4, .int (nI (i))), (3, .int (x)), (0, .ref (k 0)), (1, .long (x0))] → W p l e rm_M_marked s m ([.ref (k 0), .long (x0)] : List Value).toArray below meth c H locs 0 0 (MQ below (va_Qi (fun r v => r = bI (mkU t 0 x0 (gT x0)) ∧ v = mU d t mk) (mB D k cI n A) A) ([.ref (k 0), .long (x0)] : List Value).toArray s 0 0 A) (F0 m 5 ls []) := by
    intro q
    induction q with
    | zero =>
      intro i x H locs ls hi hq hv hP hS hl
      exact absurd hq (by omega)
    | succ q ih =>
      intro i x H locs ls hi hq hv hP hS hl
      refine lv_iload hx hb d_M_marked_5 (lv_at hl 0 rfl) ?_
      refine lv_bipush (v := nI 8) hx hb d_M_marked_7 rfl ?_
      refine lv_icmp_ge (tgt := 110) hx hb d_M_marked_9 (by decide) (fun c_9 => ?_) (fun c_9 => ?_)
      · have hik : i = 8 := ge_t hi (by omega) c_9
        refine lv_iload_n hx hb d_M_marked_110 rfl (lv_at hl 1 rfl) ?_
        exact g_zret (v := (x)) hx hb hr (by rw [hv]; exact bI_n _) hlk mW_w mX_x hB hP hS (⟨by rw [hv, hik]; rfl, rfl⟩) d_M_marked_111
      · have hik : i < 8 := ge_f (by omega) (by omega) c_9
        refine lv_sipush (v := nI 128) hx hb d_M_marked_12 rfl ?_
        refine lv_iload hx hb d_M_marked_15 (lv_at hl 0 rfl) ?_
        refine lv_imulC hx hb d_M_marked_17 ?_
        refine lv_z0 ?_
        refine lv_bipush (v := nI 16) hx hb d_M_marked_18 rfl ?_
        refine lv_iaddN hx hb d_M_marked_20 ?_
        refine lv_istore (lv' := [(5, .int (nI ((0 + i * 128) + 16))), (4, .int (nI (i))), (3, .int (x)), (0, .ref (k 0)), (1, .long (x0))]) hx hb d_M_marked_21 hl (by decide) rfl (fun ls hl => ?_)
        refine lv_aload_n hx hb d_M_marked_23 rfl (lv_at hl 3 rfl) ?_
        refine va_get (D := D) (ci := 3) (v := .ref (k 2)) (C := R_M) (T := F_M) (N := 4) hx hb hts (fun w h => .tail _ (fi_M w h)) hown hK hP 0 rfl rfl 2 (by decide) (hts _ (.tail _ m_406)) (fun _ h9 => h9) rfl d_M_marked_24 ?_
        refine lv_iload hx hb d_M_marked_27 (lv_at hl 0 rfl) ?_
        refine lv_bipush (v := nI 8) hx hb d_M_marked_29 rfl ?_
        refine g_callSl (As := [.ref (k 2), .int (nI ((0 + i * 128) + 16)), .int (nI (8))]) (rest := []) ⟨hx, hb, hml, hown, hts⟩ (index := 53) (c_M_get l D k cI n A hn hn2 (mU (d) (t) (mk)) (2) (by omega) (by omega) ((0 + i * 128) + 16) (8) (by omega)) (cwS 3 hts (gd_S m_450 m_451 m_33 m_452) rfl rfl rfl hd_M_get ⟨Nat.le_of_ble_eq_true rfl, Nat.le_of_ble_eq_true rfl⟩) mW_w mX_x hB hP hS rfl hl.1 rfl (Nat.le_of_ble_eq_true rfl) d_M_marked_31 ⟨Nat.zero_le _, Nat.zero_le _⟩ (fun r_ v_ H locs hw hP hS => ?_)
        obtain ⟨hw1, hw2⟩ := hw; have hw1 : r_ = (num (t) ((0 + i * 128) + 16) 8) := hw1; have hw1 := hw1.symm; have hw2 := hw2.symm; subst hw1; subst hw2
        refine lv_lload_n hx hb d_M_marked_34 rfl (lv_at hl 4 rfl) ?_
        refine W.lcmp hx hb d_M_marked_35 ?_
        refine lv_if_ne (tgt := 70) hx hb d_M_marked_36 (by decide) (fun c_36 => ?_) (fun c_36 => ?_)
        · have c_36 := fun z => c_36 ((lg_cmp_eq _ _).mpr z)
          refine lv_iconst (v := nI 0) hx hb d_M_marked_70 rfl ?_
          refine lv_istore (lv' := [(6, .int (nI (0))), (5, .int (nI ((0 + i * 128) + 16))), (4, .int (nI (i))), (3, .int (x)), (0, .ref (k 0)), (1, .long (x0))]) hx hb d_M_marked_71 hl (by decide) rfl (fun ls hl => ?_)
          refine lv_iload_n hx hb d_M_marked_73 rfl (lv_at hl 3 rfl) ?_
          refine lv_if_ne (tgt := 98) hx hb d_M_marked_74 (by decide) (fun c_74 => ?_) (fun c_74 => ?_)
          · refine lv_iconst (v := nI 1) hx hb d_M_marked_98 rfl ?_
            refine lv_goto (tgt := 103) hx hb d_M_marked_99 (by decide) ?_
            refine lv_istore_n (lv' := [(3, .int (nI (1))), (6, .int (nI (0))), (5, .int (nI ((0 + i * 128) + 16))), (4, .int (nI (i))), (0, .ref (k 0)), (1, .long (x0))]) hx hb d_M_marked_103 rfl hl (by decide) rfl (fun ls hl => ?_)
            refine lv_iinc (v := (nI (i + 1))) (lv' := [(4, .int (nI (i + 1))), (3, .int (nI (1))), (6, .int (nI (0))), (5, .int (nI ((0 + i * 128) + 16))), (0, .ref (k 0)), (1, .long (x0))]) hx hb d_M_marked_104 hl (k := 3) rfl (nI_add _ _) (by decide) rfl (fun ls hl => ?_)
            refine lv_goto (tgt := 5) hx hb d_M_marked_107 (by decide) ?_
            exact ih (i + 1) _ _ _ _ (by omega) (by omega) (bI_t (exS.mpr (Or.inl (bI_y hv c_74)))).symm hP hS (lv_sub hl [0, 1, 4, 5] rfl)
          · refine lv_iload hx hb d_M_marked_77 (lv_at hl 0 rfl) ?_
            refine lv_if_eq (tgt := 102) hx hb d_M_marked_79 (by decide) (fun _ => ?_) (fun c9 => absurd (by decide) c9)
            refine lv_iconst (v := nI 0) hx hb d_M_marked_102 rfl ?_
            refine lv_istore_n (lv' := [(3, .int (nI (0))), (6, .int (nI (0))), (5, .int (nI ((0 + i * 128) + 16))), (4, .int (nI (i))), (0, .ref (k 0)), (1, .long (x0))]) hx hb d_M_marked_103 rfl hl (by decide) rfl (fun ls hl => ?_)
            refine lv_iinc (v := (nI (i + 1))) (lv' := [(4, .int (nI (i + 1))), (3, .int (nI (0))), (6, .int (nI (0))), (5, .int (nI ((0 + i * 128) + 16))), (0, .ref (k 0)), (1, .long (x0))]) hx hb d_M_marked_104 hl (k := 3) rfl (nI_add _ _) (by decide) rfl (fun ls hl => ?_)
            refine lv_goto (tgt := 5) hx hb d_M_marked_107 (by decide) ?_
            exact ih (i + 1) _ _ _ _ (by omega) (by omega) (bI_f (fun z => (exS.mp z).elim (bI_x hv c_74) (fun w => c_36 w.2.1))).symm hP hS (lv_sub hl [0, 1, 4, 5] rfl)
        · have c_36 := (lg_cmp_eq _ _).mp c_36
          refine lv_aload_n hx hb d_M_marked_39 rfl (lv_at hl 3 rfl) ?_
          refine va_get (D := D) (ci := 3) (v := .ref (k 2)) (C := R_M) (T := F_M) (N := 4) hx hb hts (fun w h => .tail _ (fi_M w h)) hown hK hP 0 rfl rfl 2 (by decide) (hts _ (.tail _ m_406)) (fun _ h9 => h9) rfl d_M_marked_40 ?_
          refine lv_iload hx hb d_M_marked_43 (lv_at hl 0 rfl) ?_
          refine lv_bipush (v := nI 8) hx hb d_M_marked_45 rfl ?_
          refine lv_iaddN hx hb d_M_marked_47 ?_
          refine lv_bipush (v := nI 8) hx hb d_M_marked_48 rfl ?_
          refine g_callSl (As := [.ref (k 2), .int (nI (((0 + i * 128) + 16) + 8)), .int (nI (8))]) (rest := []) ⟨hx, hb, hml, hown, hts⟩ (index := 53) (c_M_get l D k cI n A hn hn2 (mU (d) (t) (mk)) (2) (by omega) (by omega) (((0 + i * 128) + 16) + 8) (8) (by omega)) (cwS 3 hts (gd_S m_450 m_451 m_33 m_452) rfl rfl rfl hd_M_get ⟨Nat.le_of_ble_eq_true rfl, Nat.le_of_ble_eq_true rfl⟩) mW_w mX_x hB hP hS rfl hl.1 rfl (Nat.le_of_ble_eq_true rfl) d_M_marked_50 ⟨Nat.zero_le _, Nat.zero_le _⟩ (fun r_ v_ H locs hw hP hS => ?_)
          obtain ⟨hw1, hw2⟩ := hw; have hw1 : r_ = (num (t) (((0 + i * 128) + 16) + 8) 8) := hw1; have hw1 := hw1.symm; have hw2 := hw2.symm; subst hw1; subst hw2
          refine lv_lload_n hx hb d_M_marked_53 rfl (lv_at hl 4 rfl) ?_
          refine lv_ldc2 (v := 2862933555777941757) hx hb hown (hts _ (.tail _ m_528)) d_M_marked_54 ?_
          refine lv_lmul hx hb d_M_marked_57 ?_
          refine lv_ldc2 (v := 3037000493) hx hb hown (hts _ (.tail _ m_529)) d_M_marked_58 ?_
          refine lv_ladd hx hb d_M_marked_61 ?_
          refine W.lcmp hx hb d_M_marked_62 ?_
          refine lv_if_ne (tgt := 70) hx hb d_M_marked_63 (by decide) (fun c_63 => ?_) (fun c_63 => ?_)
          · have c_63 := fun z => c_63 ((lg_cmp_eq _ _).mpr z)
            refine lv_iconst (v := nI 0) hx hb d_M_marked_70 rfl ?_
            refine lv_istore (lv' := [(6, .int (nI (0))), (5, .int (nI ((0 + i * 128) + 16))), (4, .int (nI (i))), (3, .int (x)), (0, .ref (k 0)), (1, .long (x0))]) hx hb d_M_marked_71 hl (by decide) rfl (fun ls hl => ?_)
            refine lv_iload_n hx hb d_M_marked_73 rfl (lv_at hl 3 rfl) ?_
            refine lv_if_ne (tgt := 98) hx hb d_M_marked_74 (by decide) (fun c_74 => ?_) (fun c_74 => ?_)
            · refine lv_iconst (v := nI 1) hx hb d_M_marked_98 rfl ?_
              refine lv_goto (tgt := 103) hx hb d_M_marked_99 (by decide) ?_
              refine lv_istore_n (lv' := [(3, .int (nI (1))), (6, .int (nI (0))), (5, .int (nI ((0 + i * 128) + 16))), (4, .int (nI (i))), (0, .ref (k 0)), (1, .long (x0))]) hx hb d_M_marked_103 rfl hl (by decide) rfl (fun ls hl => ?_)
              refine lv_iinc (v := (nI (i + 1))) (lv' := [(4, .int (nI (i + 1))), (3, .int (nI (1))), (6, .int (nI (0))), (5, .int (nI ((0 + i * 128) + 16))), (0, .ref (k 0)), (1, .long (x0))]) hx hb d_M_marked_104 hl (k := 3) rfl (nI_add _ _) (by decide) rfl (fun ls hl => ?_)
              refine lv_goto (tgt := 5) hx hb d_M_marked_107 (by decide) ?_
              exact ih (i + 1) _ _ _ _ (by omega) (by omega) (bI_t (exS.mpr (Or.inl (bI_y hv c_74)))).symm hP hS (lv_sub hl [0, 1, 4, 5] rfl)
            · refine lv_iload hx hb d_M_marked_77 (lv_at hl 0 rfl) ?_
              refine lv_if_eq (tgt := 102) hx hb d_M_marked_79 (by decide) (fun _ => ?_) (fun c9 => absurd (by decide) c9)
              refine lv_iconst (v := nI 0) hx hb d_M_marked_102 rfl ?_
              refine lv_istore_n (lv' := [(3, .int (nI (0))), (6, .int (nI (0))), (5, .int (nI ((0 + i * 128) + 16))), (4, .int (nI (i))), (0, .ref (k 0)), (1, .long (x0))]) hx hb d_M_marked_103 rfl hl (by decide) rfl (fun ls hl => ?_)
              refine lv_iinc (v := (nI (i + 1))) (lv' := [(4, .int (nI (i + 1))), (3, .int (nI (0))), (6, .int (nI (0))), (5, .int (nI ((0 + i * 128) + 16))), (0, .ref (k 0)), (1, .long (x0))]) hx hb d_M_marked_104 hl (k := 3) rfl (nI_add _ _) (by decide) rfl (fun ls hl => ?_)
              refine lv_goto (tgt := 5) hx hb d_M_marked_107 (by decide) ?_
              exact ih (i + 1) _ _ _ _ (by omega) (by omega) (bI_f (fun z => (exS.mp z).elim (bI_x hv c_74) (fun w => c_63 w.2.2))).symm hP hS (lv_sub hl [0, 1, 4, 5] rfl)
          · have c_63 := (lg_cmp_eq _ _).mp c_63
            refine lv_iconst (v := nI 1) hx hb d_M_marked_66 rfl ?_
            refine lv_goto (tgt := 71) hx hb d_M_marked_67 (by decide) ?_
            refine lv_istore (lv' := [(6, .int (nI (1))), (5, .int (nI ((0 + i * 128) + 16))), (4, .int (nI (i))), (3, .int (x)), (0, .ref (k 0)), (1, .long (x0))]) hx hb d_M_marked_71 hl (by decide) rfl (fun ls hl => ?_)
            refine lv_iload_n hx hb d_M_marked_73 rfl (lv_at hl 3 rfl) ?_
            refine lv_if_ne (tgt := 98) hx hb d_M_marked_74 (by decide) (fun c_74 => ?_) (fun c_74 => ?_)
            · refine lv_iconst (v := nI 1) hx hb d_M_marked_98 rfl ?_
              refine lv_goto (tgt := 103) hx hb d_M_marked_99 (by decide) ?_
              refine lv_istore_n (lv' := [(3, .int (nI (1))), (6, .int (nI (1))), (5, .int (nI ((0 + i * 128) + 16))), (4, .int (nI (i))), (0, .ref (k 0)), (1, .long (x0))]) hx hb d_M_marked_103 rfl hl (by decide) rfl (fun ls hl => ?_)
              refine lv_iinc (v := (nI (i + 1))) (lv' := [(4, .int (nI (i + 1))), (3, .int (nI (1))), (6, .int (nI (1))), (5, .int (nI ((0 + i * 128) + 16))), (0, .ref (k 0)), (1, .long (x0))]) hx hb d_M_marked_104 hl (k := 3) rfl (nI_add _ _) (by decide) rfl (fun ls hl => ?_)
              refine lv_goto (tgt := 5) hx hb d_M_marked_107 (by decide) ?_
              exact ih (i + 1) _ _ _ _ (by omega) (by omega) (bI_t (exS.mpr (Or.inl (bI_y hv c_74)))).symm hP hS (lv_sub hl [0, 1, 4, 5] rfl)
            · refine lv_iload hx hb d_M_marked_77 (lv_at hl 0 rfl) ?_
              refine lv_if_eq (tgt := 102) hx hb d_M_marked_79 (by decide) (fun c9 => absurd c9 (by decide)) (fun _ => ?_)
              refine lv_aload_n hx hb d_M_marked_82 rfl (lv_at hl 4 rfl) ?_
              refine va_get (D := D) (ci := 3) (v := .ref (k 2)) (C := R_M) (T := F_M) (N := 4) hx hb hts (fun w h => .tail _ (fi_M w h)) hown hK hP 0 rfl rfl 2 (by decide) (hts _ (.tail _ m_406)) (fun _ h9 => h9) rfl d_M_marked_83 ?_
              refine lv_sipush (v := nI 128) hx hb d_M_marked_86 rfl ?_
              refine lv_iload hx hb d_M_marked_89 (lv_at hl 2 rfl) ?_
              refine lv_imulC hx hb d_M_marked_91 ?_
              refine lv_z0 ?_
              refine g_callSi (As := [.ref (k 2), .int (nI (0 + i * 128))]) (rest := []) ⟨hx, hb, hml, hown, hts⟩ (index := 63) (c_M_isFree l D k cI n A hn hn2 (mU (d) (t) (mk)) (2) (by omega) (by omega) (0 + i * 128) (by omega)) (cwS 2 hts (gd_S m_485 m_486 m_33 m_487) rfl rfl rfl hd_M_isFree ⟨Nat.le_of_ble_eq_true rfl, Nat.le_of_ble_eq_true rfl⟩) mW_w mX_x hB hP hS rfl hl.1 rfl (Nat.le_of_ble_eq_true rfl) d_M_marked_92 ⟨Nat.zero_le _, Nat.zero_le _⟩ (fun r_ v_ H locs hw hP hS => ?_)
              obtain ⟨hw1, hw2⟩ := hw; have hw1 : r_ = (bI (isZ (t) (0 + i * 128) 16)) := hw1; have hw1 := hw1.symm; have hw2 := hw2.symm; subst hw1; subst hw2
              refine lv_if_ne (tgt := 102) hx hb d_M_marked_95 (by decide) (fun c_95 => ?_) (fun c_95 => ?_)
              · have c_95 := bI_1 c_95
                refine lv_iconst (v := nI 0) hx hb d_M_marked_102 rfl ?_
                refine lv_istore_n (lv' := [(3, .int (nI (0))), (6, .int (nI (1))), (5, .int (nI ((0 + i * 128) + 16))), (4, .int (nI (i))), (0, .ref (k 0)), (1, .long (x0))]) hx hb d_M_marked_103 rfl hl (by decide) rfl (fun ls hl => ?_)
                refine lv_iinc (v := (nI (i + 1))) (lv' := [(4, .int (nI (i + 1))), (3, .int (nI (0))), (6, .int (nI (1))), (5, .int (nI ((0 + i * 128) + 16))), (0, .ref (k 0)), (1, .long (x0))]) hx hb d_M_marked_104 hl (k := 3) rfl (nI_add _ _) (by decide) rfl (fun ls hl => ?_)
                refine lv_goto (tgt := 5) hx hb d_M_marked_107 (by decide) ?_
                exact ih (i + 1) _ _ _ _ (by omega) (by omega) (bI_f (fun z => (exS.mp z).elim (bI_x hv c_74) (fun w => w.1 c_95))).symm hP hS (lv_sub hl [0, 1, 4, 5] rfl)
              · have c_95 := bI_0.mp c_95
                refine lv_iconst (v := nI 1) hx hb d_M_marked_98 rfl ?_
                refine lv_goto (tgt := 103) hx hb d_M_marked_99 (by decide) ?_
                refine lv_istore_n (lv' := [(3, .int (nI (1))), (6, .int (nI (1))), (5, .int (nI ((0 + i * 128) + 16))), (4, .int (nI (i))), (0, .ref (k 0)), (1, .long (x0))]) hx hb d_M_marked_103 rfl hl (by decide) rfl (fun ls hl => ?_)
                refine lv_iinc (v := (nI (i + 1))) (lv' := [(4, .int (nI (i + 1))), (3, .int (nI (1))), (6, .int (nI (1))), (5, .int (nI ((0 + i * 128) + 16))), (0, .ref (k 0)), (1, .long (x0))]) hx hb d_M_marked_104 hl (k := 3) rfl (nI_add _ _) (by decide) rfl (fun ls hl => ?_)
                refine lv_goto (tgt := 5) hx hb d_M_marked_107 (by decide) ?_
                exact ih (i + 1) _ _ _ _ (by omega) (by omega) (bI_t (exS.mpr (Or.inr ⟨c_95, c_36, c_63⟩))).symm hP hS (lv_sub hl [0, 1, 4, 5] rfl)
  exact lp (8 + 1) 0 _ _ _ _ (Nat.zero_le _) (by omega) (bI_f (fun ⟨p, hp, _⟩ => absurd hp (Nat.not_lt_zero _))).symm hP hS (lv_sub hl [0, 1, 2, 3] rfl)
abbrev w_M_count : List Cond := .code y_M_count b_M_count 3 (some .int) :: ALL
abbrev rm_M_count : Room := { frames := 6, cells := 0, slots := 0, locals := 140 }
theorem hd_M_count : y_M_count.cls = R_M ∧ y_M_count.cls ≠ "java/lang/invoke/MethodHandle" ∧ y_M_count.cls ≠ "java/lang/invoke/VarHandle" ∧ (parseMethodDescriptor y_M_count.desc).map (fun d => d.parameters.length) = some 0 := by decide +kernel
set_option maxHeartbeats 4000000 in
set_option maxRecDepth 100000 in
theorem c_M_count (l : Launch) (D : va_G) (k : Nat → Nat) (cI : Nat → ClassId) (n : Nat) (A : Nat → Prop) (hn : 12 ≤ n) (hn2 : n ≤ 24) (d t mk : Nat → BitVec 8)  : Met l y_M_count w_M_count rm_M_count (va_Pc [.ref (k 0)] (mB D k cI n A (mU d t mk))) (va_Qi (fun r v => r = coR n d ∧ mO d v) (mB D k cI n A) A) 0 0 A := by
  refine g_ofW (cc := b_M_count) (maxL := 3) (ret := (some .int)) (by decide) rfl (Nat.le_of_ble_eq_true rfl) ?_
  intro p e s m below meth c ls hx hb hml hr hlk hown hts hnm hB hl
  have hown : s.vm.findClass R_M = some m.cls := hown
  have hP := hB.1
  have hK := hB.2.1
  obtain ⟨H, hH⟩ : ∃ H, H = s.heap := ⟨_, rfl⟩
  have hS : va_S A s.heap H [] := by rw [hH]; exact va_S.rf
  rw [← hH] at hP ⊢
  have hl : lv_has ls 3 [(0, .ref (k 0))] := hl
  have z1 : mSz 1 = 12288 := rfl
  have z2 : mSz 2 = 1024 := rfl
  have z3 : mSz 3 = 16 := rfl
  refine lv_aload_n hx hb d_M_count_0 rfl (lv_at hl 0 rfl) ?_
  refine g_callVi (As := []) (rest := []) ⟨hx, hb, hml, hown, hts⟩ (C := R_M) (index := 127) (c_M_take l D k cI n A hn hn2 (d) (t) (mk) ) (cwV 0 hts (gd_V m_543 m_545 m_25 m_33 m_546) rfl rfl rfl hd_M_take ⟨Nat.le_of_ble_eq_true rfl, Nat.le_of_ble_eq_true rfl⟩) mW_w mX_x hB hP hS (ci := 3) rfl (0) rfl rfl hl.1 rfl (Nat.le_of_ble_eq_true rfl) d_M_count_1 ⟨Nat.zero_le _, Nat.zero_le _⟩ (fun r_ v_ H locs hw hP hS => ?_)
  rcases hw with ⟨j, hj, hsr, rfl, rfl⟩ | ⟨hsr, rfl, rfl⟩
  · have hHd := cHd_le hn hj
    have hAr := cAr_le hn hj
    refine lv_if_ne (tgt := 9) hx hb d_M_count_4 (by decide) (fun _ => ?_) (fun c9 => absurd c9 (by decide))
    refine lv_iconst (v := nI 0) hx hb d_M_count_9 rfl ?_
    refine lv_istore_n (lv' := [(1, .int (nI (0))), (0, .ref (k 0))]) hx hb d_M_count_10 rfl hl (by decide) rfl (fun ls hl => ?_)
    refine lv_iconst (v := nI 0) hx hb d_M_count_11 rfl ?_
    refine lv_istore_n (lv' := [(2, .int (nI (0))), (1, .int (nI (0))), (0, .ref (k 0))]) hx hb d_M_count_12 rfl hl (by decide) rfl (fun ls hl => ?_)
    have lp : ∀ (q : Nat) (i x : Nat) (H : Heap) (locs : List Loc) (ls : Array Slot), (i ≤ 8) → (8 + 1 ≤ i + q) → (x = cnN (fun p => ¬ frE (cpT d t (cAr n j) 1024) 0 p) i) → va_P D classes (mW k cI n (mU (d) (cpT d t (cAr n j) 1024) (cpT d mk (cHd n j + 56) 16))) H → va_S A s.heap H locs → lv_has ls 3 [(2, .int (nI (i))), (1, .int (nI (x))), (0, .ref (k 0))] → W p l e rm_M_count s m ([.ref (k 0)] : List Value).toArray below meth c H locs 0 0 (MQ below (va_Qi (fun r v => r = coR n d ∧ mO d v) (mB D k cI n A) A) ([.ref (k 0)] : List Value).toArray s 0 0 A) (F0 m 13 ls []) := by
      intro q
      induction q with
      | zero =>
        intro i x H locs ls hi hq hv hP hS hl
        exact absurd hq (by omega)
      | succ q ih =>
        intro i x H locs ls hi hq hv hP hS hl
        refine lv_iload_n hx hb d_M_count_13 rfl (lv_at hl 0 rfl) ?_
        refine lv_bipush (v := nI 8) hx hb d_M_count_14 rfl ?_
        refine lv_icmp_ge (tgt := 48) hx hb d_M_count_16 (by decide) (fun c_16 => ?_) (fun c_16 => ?_)
        · have hik : i = 8 := ge_t hi (by omega) c_16
          refine lv_iload_n hx hb d_M_count_48 rfl (lv_at hl 1 rfl) ?_
          exact g_iret (v := (nI (x))) hx hb hr hlk mW_w mX_x hB hP hS (⟨by rw [hv, hik, T_cn, coR, oS_s hsr], _, _, rfl⟩) d_M_count_49
        · have hik : i < 8 := ge_f (by omega) (by omega) c_16
          refine lv_iload_n hx hb d_M_count_19 rfl (lv_at hl 1 rfl) ?_
          refine lv_aload_n hx hb d_M_count_20 rfl (lv_at hl 2 rfl) ?_
          refine va_get (D := D) (ci := 3) (v := .ref (k 2)) (C := R_M) (T := F_M) (N := 4) hx hb hts (fun w h => .tail _ (fi_M w h)) hown hK hP 0 rfl rfl 2 (by decide) (hts _ (.tail _ m_406)) (fun _ h9 => h9) rfl d_M_count_21 ?_
          refine lv_sipush (v := nI 128) hx hb d_M_count_24 rfl ?_
          refine lv_iload_n hx hb d_M_count_27 rfl (lv_at hl 0 rfl) ?_
          refine lv_imulC hx hb d_M_count_28 ?_
          refine lv_z0 ?_
          refine g_callSi (As := [.ref (k 2), .int (nI (0 + i * 128))]) (rest := [.int (nI (x))]) ⟨hx, hb, hml, hown, hts⟩ (index := 63) (c_M_isFree l D k cI n A hn hn2 (mU (d) (cpT d t (cAr n j) 1024) (cpT d mk (cHd n j + 56) 16)) (2) (by omega) (by omega) (0 + i * 128) (by omega)) (cwS 2 hts (gd_S m_485 m_486 m_33 m_487) rfl rfl rfl hd_M_isFree ⟨Nat.le_of_ble_eq_true rfl, Nat.le_of_ble_eq_true rfl⟩) mW_w mX_x hB hP hS rfl hl.1 rfl (Nat.le_of_ble_eq_true rfl) d_M_count_29 ⟨Nat.zero_le _, Nat.zero_le _⟩ (fun r_ v_ H locs hw hP hS => ?_)
          obtain ⟨hw1, hw2⟩ := hw; have hw1 : r_ = (bI (isZ ((cpT d t (cAr n j) 1024)) (0 + i * 128) 16)) := hw1; have hw1 := hw1.symm; have hw2 := hw2.symm; subst hw1; subst hw2
          refine lv_if_eq (tgt := 39) hx hb d_M_count_32 (by decide) (fun c_32 => ?_) (fun c_32 => ?_)
          · have c_32 := bI_0.mp c_32
            refine lv_iconst (v := nI 1) hx hb d_M_count_39 rfl ?_
            refine lv_iaddN hx hb d_M_count_40 ?_
            refine lv_istore_n (lv' := [(1, .int (nI (x + 1))), (2, .int (nI (i))), (0, .ref (k 0))]) hx hb d_M_count_41 rfl hl (by decide) rfl (fun ls hl => ?_)
            refine lv_iinc (v := (nI (i + 1))) (lv' := [(2, .int (nI (i + 1))), (1, .int (nI (x + 1))), (0, .ref (k 0))]) hx hb d_M_count_42 hl (k := 1) rfl (nI_add _ _) (by decide) rfl (fun ls hl => ?_)
            refine lv_goto (tgt := 13) hx hb d_M_count_45 (by decide) ?_
            exact ih (i + 1) _ _ _ _ (by omega) (by omega) (by rw [hv]; exact cnN_t c_32) hP hS (lv_sub hl [0, 1, 2] rfl)
          · have c_32 := bI_1 c_32
            refine lv_iconst (v := nI 0) hx hb d_M_count_35 rfl ?_
            refine lv_goto (tgt := 40) hx hb d_M_count_36 (by decide) ?_
            refine lv_iaddN hx hb d_M_count_40 ?_
            refine lv_istore_n (lv' := [(1, .int (nI (x + 0))), (2, .int (nI (i))), (0, .ref (k 0))]) hx hb d_M_count_41 rfl hl (by decide) rfl (fun ls hl => ?_)
            refine lv_iinc (v := (nI (i + 1))) (lv' := [(2, .int (nI (i + 1))), (1, .int (nI (x + 0))), (0, .ref (k 0))]) hx hb d_M_count_42 hl (k := 1) rfl (nI_add _ _) (by decide) rfl (fun ls hl => ?_)
            refine lv_goto (tgt := 13) hx hb d_M_count_45 (by decide) ?_
            exact ih (i + 1) _ _ _ _ (by omega) (by omega) (by rw [hv]; exact cnN_f (fun z => z c_32)) hP hS (lv_sub hl [0, 1, 2] rfl)
    exact lp (8 + 1) 0 0 _ _ _ (Nat.zero_le _) (by omega) rfl hP hS (lv_sub hl [0, 1, 2] rfl)
  · refine lv_if_ne (tgt := 9) hx hb d_M_count_4 (by decide) (fun c9 => absurd (by decide) c9) (fun _ => ?_)
    refine lv_iconst (v := -1) hx hb d_M_count_7 rfl ?_
    exact g_iret (v := (-1)) hx hb hr hlk mW_w mX_x hB hP hS (⟨(oS_n hsr).symm, _, _, rfl⟩) d_M_count_8
abbrev w_M_room : List Cond := .code y_M_room b_M_room 3 (some .int) :: ALL
abbrev rm_M_room : Room := { frames := 6, cells := 0, slots := 0, locals := 140 }
theorem hd_M_room : y_M_room.cls = R_M ∧ y_M_room.cls ≠ "java/lang/invoke/MethodHandle" ∧ y_M_room.cls ≠ "java/lang/invoke/VarHandle" ∧ (parseMethodDescriptor y_M_room.desc).map (fun d => d.parameters.length) = some 0 := by decide +kernel
set_option maxHeartbeats 4000000 in
set_option maxRecDepth 100000 in
theorem c_M_room (l : Launch) (D : va_G) (k : Nat → Nat) (cI : Nat → ClassId) (n : Nat) (A : Nat → Prop) (hn : 12 ≤ n) (hn2 : n ≤ 24) (d t mk : Nat → BitVec 8)  : Met l y_M_room w_M_room rm_M_room (va_Pc [.ref (k 0)] (mB D k cI n A (mU d t mk))) (va_Qi (fun r v => ((∃ j, j < 2 ∧ src n d = some j ∧ r = nI (cnN (fun p => ¬ tak d (cAr n j) (nI (4 + p)).toInt64 (nI (4 + p)).toInt64 (-1)) (n - 7))) ∨ (src n d = none ∧ r = -1)) ∧ mO d v) (mB D k cI n A) A) 0 0 A := by
  refine g_ofW (cc := b_M_room) (maxL := 3) (ret := (some .int)) (by decide) rfl (Nat.le_of_ble_eq_true rfl) ?_
  intro p e s m below meth c ls hx hb hml hr hlk hown hts hnm hB hl
  have hown : s.vm.findClass R_M = some m.cls := hown
  have hP := hB.1
  have hK := hB.2.1
  obtain ⟨H, hH⟩ : ∃ H, H = s.heap := ⟨_, rfl⟩
  have hS : va_S A s.heap H [] := by rw [hH]; exact va_S.rf
  rw [← hH] at hP ⊢
  have hl : lv_has ls 3 [(0, .ref (k 0))] := hl
  have z1 : mSz 1 = 12288 := rfl
  have z2 : mSz 2 = 1024 := rfl
  have z3 : mSz 3 = 16 := rfl
  refine lv_aload_n hx hb d_M_room_0 rfl (lv_at hl 0 rfl) ?_
  refine g_callVi (As := []) (rest := []) ⟨hx, hb, hml, hown, hts⟩ (C := R_M) (index := 127) (c_M_take l D k cI n A hn hn2 (d) (t) (mk) ) (cwV 0 hts (gd_V m_543 m_545 m_25 m_33 m_546) rfl rfl rfl hd_M_take ⟨Nat.le_of_ble_eq_true rfl, Nat.le_of_ble_eq_true rfl⟩) mW_w mX_x hB hP hS (ci := 3) rfl (0) rfl rfl hl.1 rfl (Nat.le_of_ble_eq_true rfl) d_M_room_1 ⟨Nat.zero_le _, Nat.zero_le _⟩ (fun r_ v_ H locs hw hP hS => ?_)
  rcases hw with ⟨j, hj, hsr, rfl, rfl⟩ | ⟨hsr, rfl, rfl⟩
  · have hHd := cHd_le hn hj
    have hAr := cAr_le hn hj
    refine lv_if_ne (tgt := 9) hx hb d_M_room_4 (by decide) (fun _ => ?_) (fun c9 => absurd c9 (by decide))
    refine lv_iconst (v := nI 0) hx hb d_M_room_9 rfl ?_
    refine lv_istore_n (lv' := [(1, .int (nI (0))), (0, .ref (k 0))]) hx hb d_M_room_10 rfl hl (by decide) rfl (fun ls hl => ?_)
    refine lv_iconst (v := nI 4) hx hb d_M_room_11 rfl ?_
    refine lv_istore_n (lv' := [(2, .int (nI (4))), (1, .int (nI (0))), (0, .ref (k 0))]) hx hb d_M_room_12 rfl hl (by decide) rfl (fun ls hl => ?_)
    have lp : ∀ (q : Nat) (i x : Nat) (H : Heap) (locs : List Loc) (ls : Array Slot), (i ≤ n - 7) → (n - 7 + 1 ≤ i + q) → (x = cnN (fun p => ¬ tak (cpT d t (cAr n j) 1024) 0 (nI (4 + p)).toInt64 (nI (4 + p)).toInt64 (-1)) i) → va_P D classes (mW k cI n (mU (d) (cpT d t (cAr n j) 1024) (cpT d mk (cHd n j + 56) 16))) H → va_S A s.heap H locs → lv_has ls 3 [(2, .int (nI (4 + i))), (1, .int (nI (x))), (0, .ref (k 0))] → W p l e rm_M_room s m ([.ref (k 0)] : List Value).toArray below meth c H locs 0 0 (MQ below (va_Qi (fun r v => ((∃ j, j < 2 ∧ src n d = some j ∧ r = nI (cnN (fun p => ¬ tak d (cAr n j) (nI (4 + p)).toInt64 (nI (4 + p)).toInt64 (-1)) (n - 7))) ∨ (src n d = none ∧ r = -1)) ∧ mO d v) (mB D k cI n A) A) ([.ref (k 0)] : List Value).toArray s 0 0 A) (F0 m 13 ls []) := by
      intro q
      induction q with
      | zero =>
        intro i x H locs ls hi hq hv hP hS hl
        exact absurd hq (by omega)
      | succ q ih =>
        intro i x H locs ls hi hq hv hP hS hl
        refine lv_iload_n hx hb d_M_room_13 rfl (lv_at hl 0 rfl) ?_
        refine lv_aload_n hx hb d_M_room_14 rfl (lv_at hl 2 rfl) ?_
        refine va_get (D := D) (ci := 3) (v := .int (nI (n))) (C := R_M) (T := F_M) (N := 4) hx hb hts (fun w h => .tail _ (fi_M w h)) hown hK hP 0 rfl rfl 0 (by decide) (hts _ (.tail _ m_404)) (fun _ h9 => h9) rfl d_M_room_15 ?_
        refine lv_iconst (v := nI 4) hx hb d_M_room_18 rfl ?_
        refine lv_isubN hx hb d_M_room_19 (by omega) ?_
        refine lv_icmp_gt (tgt := 47) hx hb d_M_room_20 (by decide) (fun c_20 => ?_) (fun c_20 => ?_)
        · have hik : i = n - 7 := by have := (nI_ltI (a := n - 4) (b := 4 + i) (by omega) (by omega)).mp c_20; omega
          refine lv_iload_n hx hb d_M_room_47 rfl (lv_at hl 1 rfl) ?_
          exact g_iret (v := (nI (x))) hx hb hr hlk mW_w mX_x hB hP hS (⟨Or.inl ⟨j, hj, hsr, by rw [hv, hik, cnN_c _ (fun p _ => by rw [T_tak])]⟩, _, _, rfl⟩) d_M_room_48
        · have hik : i < n - 7 := by have := Nat.not_lt.mp (fun z => c_20 (nI_lt (a := n - 4) (b := 4 + i) z (by omega))); omega
          refine lv_iload_n hx hb d_M_room_23 rfl (lv_at hl 1 rfl) ?_
          refine lv_aload_n hx hb d_M_room_24 rfl (lv_at hl 2 rfl) ?_
          refine lv_iload_n hx hb d_M_room_25 rfl (lv_at hl 0 rfl) ?_
          refine lv_iload_n hx hb d_M_room_26 rfl (lv_at hl 0 rfl) ?_
          refine lv_iconst (v := -1) hx hb d_M_room_27 rfl ?_
          refine g_callVi (As := [.int (nI (4 + i)), .int (nI (4 + i)), .int (-1)]) (rest := [.int (nI (x))]) ⟨hx, hb, hml, hown, hts⟩ (C := R_M) (index := 131) (c_M_taken l D k cI n A hn hn2 (d) (cpT d t (cAr n j) 1024) (cpT d mk (cHd n j + 56) 16) ((nI (4 + i))) ((nI (4 + i))) (-1)) (cwV 3 hts (gd_V m_548 m_550 m_26 m_33 m_551) rfl rfl rfl hd_M_taken ⟨Nat.le_of_ble_eq_true rfl, Nat.le_of_ble_eq_true rfl⟩) mW_w mX_x hB hP hS (ci := 3) rfl (0) rfl rfl hl.1 rfl (Nat.le_of_ble_eq_true rfl) d_M_room_28 ⟨Nat.zero_le _, Nat.zero_le _⟩ (fun r_ v_ H locs hw hP hS => ?_)
          obtain ⟨hw1, hw2⟩ := hw; have hw1 := hw1.symm; have hw2 := hw2.symm; subst hw1; subst hw2
          refine lv_if_eq (tgt := 38) hx hb d_M_room_31 (by decide) (fun c_31 => ?_) (fun c_31 => ?_)
          · have c_31 := bI_0.mp c_31
            refine lv_iconst (v := nI 1) hx hb d_M_room_38 rfl ?_
            refine lv_iaddN hx hb d_M_room_39 ?_
            refine lv_istore_n (lv' := [(1, .int (nI (x + 1))), (2, .int (nI (4 + i))), (0, .ref (k 0))]) hx hb d_M_room_40 rfl hl (by decide) rfl (fun ls hl => ?_)
            refine lv_iinc (v := (nI (4 + i + 1))) (lv' := [(2, .int (nI (4 + i + 1))), (1, .int (nI (x + 1))), (0, .ref (k 0))]) hx hb d_M_room_41 hl (k := 1) rfl (nI_add _ _) (by decide) rfl (fun ls hl => ?_)
            refine lv_goto (tgt := 13) hx hb d_M_room_44 (by decide) ?_
            exact ih (i + 1) _ _ _ _ (by omega) (by omega) (by rw [hv]; exact cnN_t c_31) hP hS (lv_sub hl [0, 1, 2] rfl)
          · have c_31 := bI_1 c_31
            refine lv_iconst (v := nI 0) hx hb d_M_room_34 rfl ?_
            refine lv_goto (tgt := 39) hx hb d_M_room_35 (by decide) ?_
            refine lv_iaddN hx hb d_M_room_39 ?_
            refine lv_istore_n (lv' := [(1, .int (nI (x + 0))), (2, .int (nI (4 + i))), (0, .ref (k 0))]) hx hb d_M_room_40 rfl hl (by decide) rfl (fun ls hl => ?_)
            refine lv_iinc (v := (nI (4 + i + 1))) (lv' := [(2, .int (nI (4 + i + 1))), (1, .int (nI (x + 0))), (0, .ref (k 0))]) hx hb d_M_room_41 hl (k := 1) rfl (nI_add _ _) (by decide) rfl (fun ls hl => ?_)
            refine lv_goto (tgt := 13) hx hb d_M_room_44 (by decide) ?_
            exact ih (i + 1) _ _ _ _ (by omega) (by omega) (by rw [hv]; exact cnN_f (fun z => z c_31)) hP hS (lv_sub hl [0, 1, 2] rfl)
    exact lp (n - 7 + 1) 0 0 _ _ _ (Nat.zero_le _) (by omega) rfl hP hS (lv_sub hl [0, 1, 2] rfl)
  · refine lv_if_ne (tgt := 9) hx hb d_M_room_4 (by decide) (fun c9 => absurd (by decide) c9) (fun _ => ?_)
    refine lv_iconst (v := -1) hx hb d_M_room_7 rfl ?_
    exact g_iret (v := (-1)) hx hb hr hlk mW_w mX_x hB hP hS (⟨Or.inr ⟨hsr, rfl⟩, _, _, rfl⟩) d_M_room_8
abbrev w_M_letter : List Cond := .code y_M_letter b_M_letter 3 (some .char) :: ALL
abbrev rm_M_letter : Room := { frames := 6, cells := 0, slots := 0, locals := 140 }
theorem hd_M_letter : y_M_letter.cls = R_M ∧ y_M_letter.cls ≠ "java/lang/invoke/MethodHandle" ∧ y_M_letter.cls ≠ "java/lang/invoke/VarHandle" ∧ (parseMethodDescriptor y_M_letter.desc).map (fun d => d.parameters.length) = some 2 := by decide +kernel
set_option maxHeartbeats 4000000 in
set_option maxRecDepth 100000 in
theorem c_M_letter (l : Launch) (D : va_G) (k : Nat → Nat) (cI : Nat → ClassId) (n : Nat) (A : Nat → Prop) (hn : 12 ≤ n) (hn2 : n ≤ 24) (d t mk : Nat → BitVec 8) (x y : Int32) : Met l y_M_letter w_M_letter rm_M_letter (va_Pc [.ref (k 0), .int (x), .int (y)] (mB D k cI n A (mU d t mk))) (va_Qi (fun r v => r = leR n d x y ∧ mO d v) (mB D k cI n A) A) 0 0 A := by
  refine g_ofW (cc := b_M_letter) (maxL := 3) (ret := (some .char)) (by decide) rfl (Nat.le_of_ble_eq_true rfl) ?_
  intro p e s m below meth c ls hx hb hml hr hlk hown hts hnm hB hl
  have hown : s.vm.findClass R_M = some m.cls := hown
  have hP := hB.1
  have hK := hB.2.1
  obtain ⟨H, hH⟩ : ∃ H, H = s.heap := ⟨_, rfl⟩
  have hS : va_S A s.heap H [] := by rw [hH]; exact va_S.rf
  rw [← hH] at hP ⊢
  have hl : lv_has ls 3 [(0, .ref (k 0)), (1, .int (x)), (2, .int (y))] := hl
  have z1 : mSz 1 = 12288 := rfl
  have z2 : mSz 2 = 1024 := rfl
  have z3 : mSz 3 = 16 := rfl
  refine lv_iload_n hx hb d_M_letter_0 rfl (lv_at hl 1 rfl) ?_
  refine lv_if_lt (tgt := 27) hx hb d_M_letter_1 (by decide) (fun c_1 => ?_) (fun c_1 => ?_)
  · refine lv_iconst (v := nI 0) hx hb d_M_letter_27 rfl ?_
    exact g_zret (v := (nI (0))) hx hb hr (rfl) hlk mW_w mX_x hB hP hS (⟨(le_out (fun z => z.1.1 c_1)).symm, _, _, rfl⟩) d_M_letter_28
  · refine lv_iload_n hx hb d_M_letter_4 rfl (lv_at hl 1 rfl) ?_
    refine lv_bipush (v := nI 7) hx hb d_M_letter_5 rfl ?_
    refine lv_icmp_gt (tgt := 27) hx hb d_M_letter_7 (by decide) (fun c_7 => ?_) (fun c_7 => ?_)
    · refine lv_iconst (v := nI 0) hx hb d_M_letter_27 rfl ?_
      exact g_zret (v := (nI (0))) hx hb hr (rfl) hlk mW_w mX_x hB hP hS (⟨(le_out (fun z => in_up (by decide) z.1 c_7)).symm, _, _, rfl⟩) d_M_letter_28
    · refine lv_iload_n hx hb d_M_letter_10 rfl (lv_at hl 2 rfl) ?_
      refine lv_if_lt (tgt := 27) hx hb d_M_letter_11 (by decide) (fun c_11 => ?_) (fun c_11 => ?_)
      · refine lv_iconst (v := nI 0) hx hb d_M_letter_27 rfl ?_
        exact g_zret (v := (nI (0))) hx hb hr (rfl) hlk mW_w mX_x hB hP hS (⟨(le_out (fun z => z.2.1 c_11)).symm, _, _, rfl⟩) d_M_letter_28
      · refine lv_iload_n hx hb d_M_letter_14 rfl (lv_at hl 2 rfl) ?_
        refine lv_bipush (v := nI 35) hx hb d_M_letter_15 rfl ?_
        refine lv_icmp_gt (tgt := 27) hx hb d_M_letter_17 (by decide) (fun c_17 => ?_) (fun c_17 => ?_)
        · refine lv_iconst (v := nI 0) hx hb d_M_letter_27 rfl ?_
          exact g_zret (v := (nI (0))) hx hb hr (rfl) hlk mW_w mX_x hB hP hS (⟨(le_out (fun z => in_up (by decide) z.2 c_17)).symm, _, _, rfl⟩) d_M_letter_28
        · obtain ⟨a, ha, rfl⟩ := up_ex (by decide) c_1 c_7
          obtain ⟨b, hb2, rfl⟩ := up_ex (by decide) c_11 c_17
          refine lv_aload_n hx hb d_M_letter_20 rfl (lv_at hl 0 rfl) ?_
          refine g_callVi (As := []) (rest := []) ⟨hx, hb, hml, hown, hts⟩ (C := R_M) (index := 127) (c_M_take l D k cI n A hn hn2 (d) (t) (mk) ) (cwV 0 hts (gd_V m_543 m_545 m_25 m_33 m_546) rfl rfl rfl hd_M_take ⟨Nat.le_of_ble_eq_true rfl, Nat.le_of_ble_eq_true rfl⟩) mW_w mX_x hB hP hS (ci := 3) rfl (0) rfl rfl hl.1 rfl (Nat.le_of_ble_eq_true rfl) d_M_letter_21 ⟨Nat.zero_le _, Nat.zero_le _⟩ (fun r_ v_ H locs hw hP hS => ?_)
          rcases hw with ⟨j, hj, hsr, rfl, rfl⟩ | ⟨hsr, rfl, rfl⟩
          · have hHd := cHd_le hn hj
            have hAr := cAr_le hn hj
            refine lv_if_ne (tgt := 29) hx hb d_M_letter_24 (by decide) (fun _ => ?_) (fun c9 => absurd c9 (by decide))
            refine lv_aload_n hx hb d_M_letter_29 rfl (lv_at hl 0 rfl) ?_
            refine va_get (D := D) (ci := 3) (v := .ref (k 2)) (C := R_M) (T := F_M) (N := 4) hx hb hts (fun w h => .tail _ (fi_M w h)) hown hK hP 0 rfl rfl 2 (by decide) (hts _ (.tail _ m_406)) (fun _ h9 => h9) rfl d_M_letter_30 ?_
            refine lv_sipush (v := nI 128) hx hb d_M_letter_33 rfl ?_
            refine lv_iload_n hx hb d_M_letter_36 rfl (lv_at hl 1 rfl) ?_
            refine lv_imulC hx hb d_M_letter_37 ?_
            refine lv_z0 ?_
            refine lv_bipush (v := nI 56) hx hb d_M_letter_38 rfl ?_
            refine lv_iaddN hx hb d_M_letter_40 ?_
            refine lv_iconst (v := nI 2) hx hb d_M_letter_41 rfl ?_
            refine lv_iload_n hx hb d_M_letter_42 rfl (lv_at hl 2 rfl) ?_
            refine lv_imulN hx hb d_M_letter_43 ?_
            refine lv_iaddN hx hb d_M_letter_44 ?_
            refine lv_iconst (v := nI 2) hx hb d_M_letter_45 rfl ?_
            refine g_callSl (As := [.ref (k 2), .int (nI (((0 + a * 128) + 56) + (2 * b))), .int (nI (2))]) (rest := []) ⟨hx, hb, hml, hown, hts⟩ (index := 53) (c_M_get l D k cI n A hn hn2 (mU (d) (cpT d t (cAr n j) 1024) (cpT d mk (cHd n j + 56) 16)) (2) (by omega) (by omega) (((0 + a * 128) + 56) + (2 * b)) (2) (by omega)) (cwS 3 hts (gd_S m_450 m_451 m_33 m_452) rfl rfl rfl hd_M_get ⟨Nat.le_of_ble_eq_true rfl, Nat.le_of_ble_eq_true rfl⟩) mW_w mX_x hB hP hS rfl hl.1 rfl (Nat.le_of_ble_eq_true rfl) d_M_letter_46 ⟨Nat.zero_le _, Nat.zero_le _⟩ (fun r_ v_ H locs hw hP hS => ?_)
            obtain ⟨hw1, hw2⟩ := hw; have hw1 : r_ = (num ((cpT d t (cAr n j) 1024)) (((0 + a * 128) + 56) + (2 * b)) 2) := hw1; have hw1 := hw1.symm; have hw2 := hw2.symm; subst hw1; subst hw2
            refine lv_l2i hx hb d_M_letter_49 rfl ?_
            refine lv_i2c hx hb d_M_letter_50 rfl ?_
            exact g_zret (v := ((((num ((cpT d t (cAr n j) 1024)) (((0 + a * 128) + 56) + (2 * b)) 2).toInt32).toUInt32 % 65536).toInt32)) hx hb hr (pk_nc _) hlk mW_w mX_x hB hP hS (⟨by rw [leR, oS_s hsr, cI_t ⟨inR_nI (by decide) ha, inR_nI (by decide) hb2⟩, cl_nI (by omega), cl_nI (by omega), T_num (by omega), show cAr n j + (0 + a * 128 + 56 + 2 * b) = cAr n j + a * 128 + 56 + 2 * b by omega], _, _, rfl⟩) d_M_letter_51
          · refine lv_if_ne (tgt := 29) hx hb d_M_letter_24 (by decide) (fun c9 => absurd (by decide) c9) (fun _ => ?_)
            refine lv_iconst (v := nI 0) hx hb d_M_letter_27 rfl ?_
            exact g_zret (v := (nI (0))) hx hb hr (rfl) hlk mW_w mX_x hB hP hS (⟨(le_no hsr).symm, _, _, rfl⟩) d_M_letter_28
abbrev w_M_field : List Cond := .code y_M_field b_M_field 4 (some .long) :: ALL
abbrev rm_M_field : Room := { frames := 6, cells := 0, slots := 0, locals := 140 }
theorem hd_M_field : y_M_field.cls = R_M ∧ y_M_field.cls ≠ "java/lang/invoke/MethodHandle" ∧ y_M_field.cls ≠ "java/lang/invoke/VarHandle" ∧ (parseMethodDescriptor y_M_field.desc).map (fun d => d.parameters.length) = some 2 := by decide +kernel
set_option maxHeartbeats 4000000 in
set_option maxRecDepth 100000 in
theorem c_M_field (l : Launch) (D : va_G) (k : Nat → Nat) (cI : Nat → ClassId) (n : Nat) (A : Nat → Prop) (hn : 12 ≤ n) (hn2 : n ≤ 24) (d t mk : Nat → BitVec 8) (x y : Int32) : Met l y_M_field w_M_field rm_M_field (va_Pc [.ref (k 0), .int (x), .int (y)] (mB D k cI n A (mU d t mk))) (va_Ql (fun r v => r = fiR n d x y ∧ mO d v) (mB D k cI n A) A) 0 0 A := by
  refine g_ofW (cc := b_M_field) (maxL := 4) (ret := (some .long)) (by decide) rfl (Nat.le_of_ble_eq_true rfl) ?_
  intro p e s m below meth c ls hx hb hml hr hlk hown hts hnm hB hl
  have hown : s.vm.findClass R_M = some m.cls := hown
  have hP := hB.1
  have hK := hB.2.1
  obtain ⟨H, hH⟩ : ∃ H, H = s.heap := ⟨_, rfl⟩
  have hS : va_S A s.heap H [] := by rw [hH]; exact va_S.rf
  rw [← hH] at hP ⊢
  have hl : lv_has ls 4 [(0, .ref (k 0)), (1, .int (x)), (2, .int (y))] := hl
  have z1 : mSz 1 = 12288 := rfl
  have z2 : mSz 2 = 1024 := rfl
  have z3 : mSz 3 = 16 := rfl
  refine lv_iload_n hx hb d_M_field_0 rfl (lv_at hl 1 rfl) ?_
  refine lv_if_lt (tgt := 27) hx hb d_M_field_1 (by decide) (fun c_1 => ?_) (fun c_1 => ?_)
  · refine lv_lconst (v := 0) hx hb d_M_field_27 rfl ?_
    exact g_lret (v := (0)) hx hb hr hlk mW_w mX_x hB hP hS (⟨(fi_out (fun z => z.1.1 c_1)).symm, _, _, rfl⟩) d_M_field_28
  · refine lv_iload_n hx hb d_M_field_4 rfl (lv_at hl 1 rfl) ?_
    refine lv_bipush (v := nI 7) hx hb d_M_field_5 rfl ?_
    refine lv_icmp_gt (tgt := 27) hx hb d_M_field_7 (by decide) (fun c_7 => ?_) (fun c_7 => ?_)
    · refine lv_lconst (v := 0) hx hb d_M_field_27 rfl ?_
      exact g_lret (v := (0)) hx hb hr hlk mW_w mX_x hB hP hS (⟨(fi_out (fun z => in_up (by decide) z.1 c_7)).symm, _, _, rfl⟩) d_M_field_28
    · refine lv_iload_n hx hb d_M_field_10 rfl (lv_at hl 2 rfl) ?_
      refine lv_if_lt (tgt := 27) hx hb d_M_field_11 (by decide) (fun c_11 => ?_) (fun c_11 => ?_)
      · refine lv_lconst (v := 0) hx hb d_M_field_27 rfl ?_
        exact g_lret (v := (0)) hx hb hr hlk mW_w mX_x hB hP hS (⟨(fi_out (fun z => z.2.1 c_11)).symm, _, _, rfl⟩) d_M_field_28
      · refine lv_iload_n hx hb d_M_field_14 rfl (lv_at hl 2 rfl) ?_
        refine lv_bipush (v := nI 6) hx hb d_M_field_15 rfl ?_
        refine lv_icmp_gt (tgt := 27) hx hb d_M_field_17 (by decide) (fun c_17 => ?_) (fun c_17 => ?_)
        · refine lv_lconst (v := 0) hx hb d_M_field_27 rfl ?_
          exact g_lret (v := (0)) hx hb hr hlk mW_w mX_x hB hP hS (⟨(fi_out (fun z => in_up (by decide) z.2 c_17)).symm, _, _, rfl⟩) d_M_field_28
        · obtain ⟨a, ha, rfl⟩ := up_ex (by decide) c_1 c_7
          obtain ⟨b, hb2, rfl⟩ := up_ex (by decide) c_11 c_17
          refine lv_aload_n hx hb d_M_field_20 rfl (lv_at hl 0 rfl) ?_
          refine g_callVi (As := []) (rest := []) ⟨hx, hb, hml, hown, hts⟩ (C := R_M) (index := 127) (c_M_take l D k cI n A hn hn2 (d) (t) (mk) ) (cwV 0 hts (gd_V m_543 m_545 m_25 m_33 m_546) rfl rfl rfl hd_M_take ⟨Nat.le_of_ble_eq_true rfl, Nat.le_of_ble_eq_true rfl⟩) mW_w mX_x hB hP hS (ci := 3) rfl (0) rfl rfl hl.1 rfl (Nat.le_of_ble_eq_true rfl) d_M_field_21 ⟨Nat.zero_le _, Nat.zero_le _⟩ (fun r_ v_ H locs hw hP hS => ?_)
          rcases hw with ⟨j, hj, hsr, rfl, rfl⟩ | ⟨hsr, rfl, rfl⟩
          · have hHd := cHd_le hn hj
            have hAr := cAr_le hn hj
            refine lv_if_ne (tgt := 29) hx hb d_M_field_24 (by decide) (fun _ => ?_) (fun c9 => absurd c9 (by decide))
            refine lv_iload_n hx hb d_M_field_29 rfl (lv_at hl 2 rfl) ?_
            refine lv_iconst (v := nI 3) hx hb d_M_field_30 rfl ?_
            refine lv_icmp_ge (tgt := 44) hx hb d_M_field_31 (by decide) (fun c_31 => ?_) (fun c_31 => ?_)
            · have c2 : 3 ≤ b := (nI_leI (by omega) (by omega)).mp c_31
              refine lv_bipush (v := nI 8) hx hb d_M_field_44 rfl ?_
              refine lv_iload_n hx hb d_M_field_46 rfl (lv_at hl 2 rfl) ?_
              refine lv_iconst (v := nI 3) hx hb d_M_field_47 rfl ?_
              refine lv_isubN hx hb d_M_field_48 (c2) ?_
              refine lv_imulN hx hb d_M_field_49 ?_
              refine lv_istore_n (lv' := [(3, .int (nI (8 * (b - 3)))), (0, .ref (k 0)), (1, .int (nI (a))), (2, .int (nI (b)))]) hx hb d_M_field_50 rfl hl (by decide) rfl (fun ls hl => ?_)
              refine lv_aload_n hx hb d_M_field_51 rfl (lv_at hl 1 rfl) ?_
              refine va_get (D := D) (ci := 3) (v := .ref (k 2)) (C := R_M) (T := F_M) (N := 4) hx hb hts (fun w h => .tail _ (fi_M w h)) hown hK hP 0 rfl rfl 2 (by decide) (hts _ (.tail _ m_406)) (fun _ h9 => h9) rfl d_M_field_52 ?_
              refine lv_sipush (v := nI 128) hx hb d_M_field_55 rfl ?_
              refine lv_iload_n hx hb d_M_field_58 rfl (lv_at hl 2 rfl) ?_
              refine lv_imulC hx hb d_M_field_59 ?_
              refine lv_z0 ?_
              refine lv_iload_n hx hb d_M_field_60 rfl (lv_at hl 0 rfl) ?_
              refine lv_iaddN hx hb d_M_field_61 ?_
              refine lv_bipush (v := nI 8) hx hb d_M_field_62 rfl ?_
              refine g_callSl (As := [.ref (k 2), .int (nI ((0 + a * 128) + (8 * (b - 3)))), .int (nI (8))]) (rest := []) ⟨hx, hb, hml, hown, hts⟩ (index := 53) (c_M_get l D k cI n A hn hn2 (mU (d) (cpT d t (cAr n j) 1024) (cpT d mk (cHd n j + 56) 16)) (2) (by omega) (by omega) ((0 + a * 128) + (8 * (b - 3))) (8) (by omega)) (cwS 3 hts (gd_S m_450 m_451 m_33 m_452) rfl rfl rfl hd_M_get ⟨Nat.le_of_ble_eq_true rfl, Nat.le_of_ble_eq_true rfl⟩) mW_w mX_x hB hP hS rfl hl.1 rfl (Nat.le_of_ble_eq_true rfl) d_M_field_64 ⟨Nat.zero_le _, Nat.zero_le _⟩ (fun r_ v_ H locs hw hP hS => ?_)
              obtain ⟨hw1, hw2⟩ := hw; have hw1 : r_ = (num ((cpT d t (cAr n j) 1024)) ((0 + a * 128) + (8 * (b - 3))) 8) := hw1; have hw1 := hw1.symm; have hw2 := hw2.symm; subst hw1; subst hw2
              exact g_lret (v := (num ((cpT d t (cAr n j) 1024)) ((0 + a * 128) + (8 * (b - 3))) 8)) hx hb hr hlk mW_w mX_x hB hP hS (⟨by rw [fiR, oS_s hsr, cI_t ⟨inR_nI (by decide) ha, inR_nI (by decide) hb2⟩, cl_nI (by omega), cl_nI (by omega), T_num (by omega), fdO, if_neg (by omega)]; congr 1; omega, _, _, rfl⟩) d_M_field_67
            · have c2 : b < 3 := ge_f (by omega) (by omega) c_31
              refine lv_bipush (v := nI 32) hx hb d_M_field_34 rfl ?_
              refine lv_bipush (v := nI 8) hx hb d_M_field_36 rfl ?_
              refine lv_iload_n hx hb d_M_field_38 rfl (lv_at hl 2 rfl) ?_
              refine lv_imulN hx hb d_M_field_39 ?_
              refine lv_iaddN hx hb d_M_field_40 ?_
              refine lv_goto (tgt := 50) hx hb d_M_field_41 (by decide) ?_
              refine lv_istore_n (lv' := [(3, .int (nI (32 + (8 * b)))), (0, .ref (k 0)), (1, .int (nI (a))), (2, .int (nI (b)))]) hx hb d_M_field_50 rfl hl (by decide) rfl (fun ls hl => ?_)
              refine lv_aload_n hx hb d_M_field_51 rfl (lv_at hl 1 rfl) ?_
              refine va_get (D := D) (ci := 3) (v := .ref (k 2)) (C := R_M) (T := F_M) (N := 4) hx hb hts (fun w h => .tail _ (fi_M w h)) hown hK hP 0 rfl rfl 2 (by decide) (hts _ (.tail _ m_406)) (fun _ h9 => h9) rfl d_M_field_52 ?_
              refine lv_sipush (v := nI 128) hx hb d_M_field_55 rfl ?_
              refine lv_iload_n hx hb d_M_field_58 rfl (lv_at hl 2 rfl) ?_
              refine lv_imulC hx hb d_M_field_59 ?_
              refine lv_z0 ?_
              refine lv_iload_n hx hb d_M_field_60 rfl (lv_at hl 0 rfl) ?_
              refine lv_iaddN hx hb d_M_field_61 ?_
              refine lv_bipush (v := nI 8) hx hb d_M_field_62 rfl ?_
              refine g_callSl (As := [.ref (k 2), .int (nI ((0 + a * 128) + (32 + (8 * b)))), .int (nI (8))]) (rest := []) ⟨hx, hb, hml, hown, hts⟩ (index := 53) (c_M_get l D k cI n A hn hn2 (mU (d) (cpT d t (cAr n j) 1024) (cpT d mk (cHd n j + 56) 16)) (2) (by omega) (by omega) ((0 + a * 128) + (32 + (8 * b))) (8) (by omega)) (cwS 3 hts (gd_S m_450 m_451 m_33 m_452) rfl rfl rfl hd_M_get ⟨Nat.le_of_ble_eq_true rfl, Nat.le_of_ble_eq_true rfl⟩) mW_w mX_x hB hP hS rfl hl.1 rfl (Nat.le_of_ble_eq_true rfl) d_M_field_64 ⟨Nat.zero_le _, Nat.zero_le _⟩ (fun r_ v_ H locs hw hP hS => ?_)
              obtain ⟨hw1, hw2⟩ := hw; have hw1 : r_ = (num ((cpT d t (cAr n j) 1024)) ((0 + a * 128) + (32 + (8 * b))) 8) := hw1; have hw1 := hw1.symm; have hw2 := hw2.symm; subst hw1; subst hw2
              exact g_lret (v := (num ((cpT d t (cAr n j) 1024)) ((0 + a * 128) + (32 + (8 * b))) 8)) hx hb hr hlk mW_w mX_x hB hP hS (⟨by rw [fiR, oS_s hsr, cI_t ⟨inR_nI (by decide) ha, inR_nI (by decide) hb2⟩, cl_nI (by omega), cl_nI (by omega), T_num (by omega), fdO, if_pos c2]; congr 1; omega, _, _, rfl⟩) d_M_field_67
          · refine lv_if_ne (tgt := 29) hx hb d_M_field_24 (by decide) (fun c9 => absurd (by decide) c9) (fun _ => ?_)
            refine lv_lconst (v := 0) hx hb d_M_field_27 rfl ?_
            exact g_lret (v := (0)) hx hb hr hlk mW_w mX_x hB hP hS (⟨(fi_no hsr).symm, _, _, rfl⟩) d_M_field_28
