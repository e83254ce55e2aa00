set_option maxHeartbeats 4000000 in
set_option maxRecDepth 100000 in
theorem lc_0 {p : Program} {l : Launch} {e : Env} {s : State} {m : MethodId} {below : List Frame} {meth : Method} {c : Code} {D : va_G} {h k : Nat → Nat} {cA : ClassId} {cI : Nat → ClassId} {n tb b L : Nat} {xs : Nat → Int32} (hL : L ≤ 4609) (C0 : lw_At p s m meth c b L xs) (hn : 12 ≤ n) (hn2 : n ≤ 24) (hK : va_K D classes [(cA, .byte), (cI 1, .int), (cI 2, .int), (cI 3, .int)] s) (hXs : cX tb (fun q : Nat => s.heap.size ≤ q) s s.heap) {i : Nat} (hi : i + 9 ≤ L) {d t mk : Nat → BitVec 8} {H : Heap} {locs : List Loc} {ls : Array Slot} (hP : va_P D classes (cW h cA n d ++ mW k cI n (mU d t mk)) H) (hD : va_D (fun q : Nat => s.heap.size ≤ q) (cW h cA n d ++ mW k cI n (mU d t mk))) (hS : va_S (fun q : Nat => s.heap.size ≤ q) s.heap H locs) (hl : lv_has ls 4 [(3, .int (nI (i))), (2, .ref (k 0)), (1, .ref (h 0)), (0, .ref (b))]) (kk : ∀ (d t mk : Nat → BitVec 8) (H : Heap) (locs : List Loc), va_P D classes (cW h cA n d ++ mW k cI n (mU d t mk)) H → va_D (fun q : Nat => s.heap.size ≤ q) (cW h cA n d ++ mW k cI n (mU d t mk)) → va_S (fun q : Nat => s.heap.size ≤ q) s.heap H locs → W p l e room_1 s m #[Value.ref b] below meth c H locs 9 25641 (lw_Z below #[Value.ref b] s) (F0 m 759 ls [])) : W p l e room_1 s m #[Value.ref b] below meth c H locs 9 25641 (lw_Z below #[Value.ref b] s) (F0 m 128 ls []) := by
  obtain ⟨hx, hb, hr, hml, hown, hts, hX, hbl, hlocks, hgv⟩ := C0
  have hown : s.vm.findClass R_L = some m.cls := hown
  have hA : ∀ q : Nat, s.heap.size ≤ q → (fun q : Nat => s.heap.size ≤ q) q := fun _ h => h
  have hbA : ¬ (fun q : Nat => s.heap.size ≤ q) b := Nat.not_le.mpr hbl
  refine lv_aload_n hx hb d_L_law_128 rfl (lv_at hl 2 rfl) ?_
  refine lw_Ci (tb := tb) (As := []) (rest := []) (index := 21) hx hb hml hown hts (c_T_blocks l D h cA n tb (va_A (cW h cA n d) H.size) hn hn2 d ) (cwV 0 hts (gdL_V m_99 m_100 m_101 m_30 m_102) rfl rfl rfl hd_T_blocks ⟨Nat.le_of_ble_eq_true rfl, Nat.le_of_ble_eq_true rfl⟩) hK hXs hP hD hA hS rfl hl.1 rfl (Nat.le_of_ble_eq_true rfl) d_L_law_129 ⟨Nat.le_of_ble_eq_true rfl, Nat.le_of_ble_eq_true rfl⟩ (fun r_ v_ H locs hw hP hD hS => ?_)
  have hw1 : r_ = (nI (n)) := hw.1
  have hw2 : v_ = d := hw.2
  have hw1 := hw1.symm; subst hw1
  have hw2 := hw2.symm; subst hw2
  refine lv_aload_n hx hb d_L_law_132 rfl (lv_at hl 1 rfl) ?_
  refine lw_Mi (tb := tb) (As := []) (rest := [.int (nI (n))]) (index := 25) hx hb hml hown hts (c_M_blocks l D k cI n (va_A (mW k cI n (mU d t mk)) H.size) hn hn2 d t mk ) (cwV 0 hts (gdL_V m_418 m_419 m_420 m_33 m_421) rfl rfl rfl hd_M_blocks ⟨Nat.le_of_ble_eq_true rfl, Nat.le_of_ble_eq_true rfl⟩) hK hXs hP hD hA hS rfl hl.1 rfl (Nat.le_of_ble_eq_true rfl) d_L_law_133 ⟨Nat.le_of_ble_eq_true rfl, Nat.le_of_ble_eq_true rfl⟩ (fun r_ v_ H locs hw hP hD hS => ?_)
  have hw1 : r_ = (nI (n)) := hw.1
  have hw2 : v_ = mU d t mk := hw.2
  have hw1 := hw1.symm; subst hw1
  have hw2 := hw2.symm; subst hw2
  refine lv_icmp_eq (tgt := 759) hx hb d_L_law_136 (by decide) (fun _ => ?_) (fun c9 => absurd (rfl) c9)
  exact kk _ _ _ _ _ hP hD hS
set_option maxHeartbeats 4000000 in
set_option maxRecDepth 100000 in
theorem lc_1 {p : Program} {l : Launch} {e : Env} {s : State} {m : MethodId} {below : List Frame} {meth : Method} {c : Code} {D : va_G} {h k : Nat → Nat} {cA : ClassId} {cI : Nat → ClassId} {n tb b L : Nat} {xs : Nat → Int32} (hL : L ≤ 4609) (C0 : lw_At p s m meth c b L xs) (hn : 12 ≤ n) (hn2 : n ≤ 24) (hK : va_K D classes [(cA, .byte), (cI 1, .int), (cI 2, .int), (cI 3, .int)] s) (hXs : cX tb (fun q : Nat => s.heap.size ≤ q) s s.heap) {i : Nat} (hi : i + 9 ≤ L) {d t mk : Nat → BitVec 8} {H : Heap} {locs : List Loc} {ls : Array Slot} (hP : va_P D classes (cW h cA n d ++ mW k cI n (mU d t mk)) H) (hD : va_D (fun q : Nat => s.heap.size ≤ q) (cW h cA n d ++ mW k cI n (mU d t mk))) (hS : va_S (fun q : Nat => s.heap.size ≤ q) s.heap H locs) (hl : lv_has ls 4 [(3, .int (nI (i))), (2, .ref (k 0)), (1, .ref (h 0)), (0, .ref (b))]) (kk : ∀ (d t mk : Nat → BitVec 8) (H : Heap) (locs : List Loc), va_P D classes (cW h cA n d ++ mW k cI n (mU d t mk)) H → va_D (fun q : Nat => s.heap.size ≤ q) (cW h cA n d ++ mW k cI n (mU d t mk)) → va_S (fun q : Nat => s.heap.size ≤ q) s.heap H locs → W p l e room_1 s m #[Value.ref b] below meth c H locs 9 25641 (lw_Z below #[Value.ref b] s) (F0 m 759 ls [])) : W p l e room_1 s m #[Value.ref b] below meth c H locs 9 25641 (lw_Z below #[Value.ref b] s) (F0 m 141 ls []) := by
  obtain ⟨hx, hb, hr, hml, hown, hts, hX, hbl, hlocks, hgv⟩ := C0
  have hown : s.vm.findClass R_L = some m.cls := hown
  have hA : ∀ q : Nat, s.heap.size ≤ q → (fun q : Nat => s.heap.size ≤ q) q := fun _ h => h
  have hbA : ¬ (fun q : Nat => s.heap.size ≤ q) b := Nat.not_le.mpr hbl
  refine lv_aload_n hx hb d_L_law_141 rfl (lv_at hl 2 rfl) ?_
  refine lv_aload_n hx hb d_L_law_142 rfl (lv_at hl 3 rfl) ?_
  refine lv_iload_n hx hb d_L_law_143 rfl (lv_at hl 0 rfl) ?_
  refine lv_iconst (v := nI 1) hx hb d_L_law_144 rfl ?_
  refine lv_iaddN hx hb d_L_law_145 ?_
  refine l_sld hx hb hX hbl hbA hS (a := i + 1) (by omega) hL d_L_law_146 ?_
  refine lv_aload_n hx hb d_L_law_147 rfl (lv_at hl 3 rfl) ?_
  refine lv_iload_n hx hb d_L_law_148 rfl (lv_at hl 0 rfl) ?_
  refine lv_iconst (v := nI 2) hx hb d_L_law_149 rfl ?_
  refine lv_iaddN hx hb d_L_law_150 ?_
  refine l_sld hx hb hX hbl hbA hS (a := i + 2) (by omega) hL d_L_law_151 ?_
  refine lw_Ci (tb := tb) (As := [.int (xs (i + 1)), .int (xs (i + 2))]) (rest := []) (index := 26) hx hb hml hown hts (c_T_peek l D h cA n tb (va_A (cW h cA n d) H.size) hn hn2 d ((xs (i + 1))) ((xs (i + 2)))) (cwV 2 hts (gdL_V m_103 m_104 m_105 m_30 m_106) rfl rfl rfl hd_T_peek ⟨Nat.le_of_ble_eq_true rfl, Nat.le_of_ble_eq_true rfl⟩) hK hXs hP hD hA hS rfl hl.1 rfl (Nat.le_of_ble_eq_true rfl) d_L_law_152 ⟨Nat.le_of_ble_eq_true rfl, Nat.le_of_ble_eq_true rfl⟩ (fun r_ v_ H locs hw hP hD hS => ?_)
  have hw1 : r_ = (pkR n d ((xs (i + 1))) ((xs (i + 2)))) := hw.1
  have hw2 : v_ = d := hw.2
  have hw1 := hw1.symm; subst hw1
  have hw2 := hw2.symm; subst hw2
  refine lv_aload_n hx hb d_L_law_155 rfl (lv_at hl 1 rfl) ?_
  refine lv_aload_n hx hb d_L_law_156 rfl (lv_at hl 3 rfl) ?_
  refine lv_iload_n hx hb d_L_law_157 rfl (lv_at hl 0 rfl) ?_
  refine lv_iconst (v := nI 1) hx hb d_L_law_158 rfl ?_
  refine lv_iaddN hx hb d_L_law_159 ?_
  refine l_sld hx hb hX hbl hbA hS (a := i + 1) (by omega) hL d_L_law_160 ?_
  refine lv_aload_n hx hb d_L_law_161 rfl (lv_at hl 3 rfl) ?_
  refine lv_iload_n hx hb d_L_law_162 rfl (lv_at hl 0 rfl) ?_
  refine lv_iconst (v := nI 2) hx hb d_L_law_163 rfl ?_
  refine lv_iaddN hx hb d_L_law_164 ?_
  refine l_sld hx hb hX hbl hbA hS (a := i + 2) (by omega) hL d_L_law_165 ?_
  refine lw_Mi (tb := tb) (As := [.int (xs (i + 1)), .int (xs (i + 2))]) (rest := [.int (pkR n d ((xs (i + 1))) ((xs (i + 2))))]) (index := 30) hx hb hml hown hts (c_M_peek l D k cI n (va_A (mW k cI n (mU d t mk)) H.size) hn hn2 d t mk ((xs (i + 1))) ((xs (i + 2)))) (cwV 2 hts (gdL_V m_422 m_423 m_424 m_33 m_425) rfl rfl rfl hd_M_peek ⟨Nat.le_of_ble_eq_true rfl, Nat.le_of_ble_eq_true rfl⟩) hK hXs hP hD hA hS rfl hl.1 rfl (Nat.le_of_ble_eq_true rfl) d_L_law_166 ⟨Nat.le_of_ble_eq_true rfl, Nat.le_of_ble_eq_true rfl⟩ (fun r_ v_ H locs hw hP hD hS => ?_)
  have hw1 : r_ = (pkR n d ((xs (i + 1))) ((xs (i + 2)))) := hw.1
  obtain ⟨t2, m2, hw2⟩ := hw.2
  have hw1 := hw1.symm; subst hw1
  have hw2 := hw2.symm; subst hw2
  refine lv_icmp_eq (tgt := 759) hx hb d_L_law_169 (by decide) (fun _ => ?_) (fun c9 => absurd (rfl) c9)
  exact kk _ _ _ _ _ hP hD hS
set_option maxHeartbeats 4000000 in
set_option maxRecDepth 100000 in
theorem lc_2 {p : Program} {l : Launch} {e : Env} {s : State} {m : MethodId} {below : List Frame} {meth : Method} {c : Code} {D : va_G} {h k : Nat → Nat} {cA : ClassId} {cI : Nat → ClassId} {n tb b L : Nat} {xs : Nat → Int32} (hL : L ≤ 4609) (C0 : lw_At p s m meth c b L xs) (hn : 12 ≤ n) (hn2 : n ≤ 24) (hK : va_K D classes [(cA, .byte), (cI 1, .int), (cI 2, .int), (cI 3, .int)] s) (hXs : cX tb (fun q : Nat => s.heap.size ≤ q) s s.heap) {i : Nat} (hi : i + 9 ≤ L) {d t mk : Nat → BitVec 8} {H : Heap} {locs : List Loc} {ls : Array Slot} (hP : va_P D classes (cW h cA n d ++ mW k cI n (mU d t mk)) H) (hD : va_D (fun q : Nat => s.heap.size ≤ q) (cW h cA n d ++ mW k cI n (mU d t mk))) (hS : va_S (fun q : Nat => s.heap.size ≤ q) s.heap H locs) (hl : lv_has ls 4 [(3, .int (nI (i))), (2, .ref (k 0)), (1, .ref (h 0)), (0, .ref (b))]) (kk : ∀ (d t mk : Nat → BitVec 8) (H : Heap) (locs : List Loc), va_P D classes (cW h cA n d ++ mW k cI n (mU d t mk)) H → va_D (fun q : Nat => s.heap.size ≤ q) (cW h cA n d ++ mW k cI n (mU d t mk)) → va_S (fun q : Nat => s.heap.size ≤ q) s.heap H locs → W p l e room_1 s m #[Value.ref b] below meth c H locs 9 25641 (lw_Z below #[Value.ref b] s) (F0 m 759 ls [])) : W p l e room_1 s m #[Value.ref b] below meth c H locs 9 25641 (lw_Z below #[Value.ref b] s) (F0 m 174 ls []) := by
  obtain ⟨hx, hb, hr, hml, hown, hts, hX, hbl, hlocks, hgv⟩ := C0
  have hown : s.vm.findClass R_L = some m.cls := hown
  have hA : ∀ q : Nat, s.heap.size ≤ q → (fun q : Nat => s.heap.size ≤ q) q := fun _ h => h
  have hbA : ¬ (fun q : Nat => s.heap.size ≤ q) b := Nat.not_le.mpr hbl
  refine lv_aload_n hx hb d_L_law_174 rfl (lv_at hl 2 rfl) ?_
  refine lv_aload_n hx hb d_L_law_175 rfl (lv_at hl 3 rfl) ?_
  refine lv_iload_n hx hb d_L_law_176 rfl (lv_at hl 0 rfl) ?_
  refine lv_iconst (v := nI 1) hx hb d_L_law_177 rfl ?_
  refine lv_iaddN hx hb d_L_law_178 ?_
  refine l_sld hx hb hX hbl hbA hS (a := i + 1) (by omega) hL d_L_law_179 ?_
  refine lv_aload_n hx hb d_L_law_180 rfl (lv_at hl 3 rfl) ?_
  refine lv_iload_n hx hb d_L_law_181 rfl (lv_at hl 0 rfl) ?_
  refine lv_iconst (v := nI 2) hx hb d_L_law_182 rfl ?_
  refine lv_iaddN hx hb d_L_law_183 ?_
  refine l_sld hx hb hX hbl hbA hS (a := i + 2) (by omega) hL d_L_law_184 ?_
  refine lv_aload_n hx hb d_L_law_185 rfl (lv_at hl 3 rfl) ?_
  refine lv_iload_n hx hb d_L_law_186 rfl (lv_at hl 0 rfl) ?_
  refine lv_iconst (v := nI 3) hx hb d_L_law_187 rfl ?_
  refine lv_iaddN hx hb d_L_law_188 ?_
  refine l_sld hx hb hX hbl hbA hS (a := i + 3) (by omega) hL d_L_law_189 ?_
  refine lw_Ci (tb := tb) (As := [.int (xs (i + 1)), .int (xs (i + 2)), .int (xs (i + 3))]) (rest := []) (index := 31) hx hb hml hown hts (c_T_poke l D h cA n tb (va_A (cW h cA n d) H.size) hn hn2 d ((xs (i + 1))) ((xs (i + 2))) ((xs (i + 3)))) (cwV 3 hts (gdL_V m_119 m_120 m_121 m_30 m_122) rfl rfl rfl hd_T_poke ⟨Nat.le_of_ble_eq_true rfl, Nat.le_of_ble_eq_true rfl⟩) hK hXs hP hD hA hS rfl hl.1 rfl (Nat.le_of_ble_eq_true rfl) d_L_law_190 ⟨Nat.le_of_ble_eq_true rfl, Nat.le_of_ble_eq_true rfl⟩ (fun r_ v_ H locs hw hP hD hS => ?_)
  have hw1 : r_ = (poR n d ((xs (i + 1))) ((xs (i + 2))) ((xs (i + 3)))).1 := congrArg Prod.fst hw
  have hw2 : v_ = (poR n d ((xs (i + 1))) ((xs (i + 2))) ((xs (i + 3)))).2 := congrArg Prod.snd hw
  have hw1 := hw1.symm; subst hw1
  have hw2 := hw2.symm; subst hw2
  refine lv_aload_n hx hb d_L_law_193 rfl (lv_at hl 1 rfl) ?_
  refine lv_aload_n hx hb d_L_law_194 rfl (lv_at hl 3 rfl) ?_
  refine lv_iload_n hx hb d_L_law_195 rfl (lv_at hl 0 rfl) ?_
  refine lv_iconst (v := nI 1) hx hb d_L_law_196 rfl ?_
  refine lv_iaddN hx hb d_L_law_197 ?_
  refine l_sld hx hb hX hbl hbA hS (a := i + 1) (by omega) hL d_L_law_198 ?_
  refine lv_aload_n hx hb d_L_law_199 rfl (lv_at hl 3 rfl) ?_
  refine lv_iload_n hx hb d_L_law_200 rfl (lv_at hl 0 rfl) ?_
  refine lv_iconst (v := nI 2) hx hb d_L_law_201 rfl ?_
  refine lv_iaddN hx hb d_L_law_202 ?_
  refine l_sld hx hb hX hbl hbA hS (a := i + 2) (by omega) hL d_L_law_203 ?_
  refine lv_aload_n hx hb d_L_law_204 rfl (lv_at hl 3 rfl) ?_
  refine lv_iload_n hx hb d_L_law_205 rfl (lv_at hl 0 rfl) ?_
  refine lv_iconst (v := nI 3) hx hb d_L_law_206 rfl ?_
  refine lv_iaddN hx hb d_L_law_207 ?_
  refine l_sld hx hb hX hbl hbA hS (a := i + 3) (by omega) hL d_L_law_208 ?_
  refine lw_Mi (tb := tb) (As := [.int (xs (i + 1)), .int (xs (i + 2)), .int (xs (i + 3))]) (rest := [.int ((poR n d ((xs (i + 1))) ((xs (i + 2))) ((xs (i + 3)))).1)]) (index := 35) hx hb hml hown hts (c_M_poke l D k cI n (va_A (mW k cI n (mU d t mk)) H.size) hn hn2 d t mk ((xs (i + 1))) ((xs (i + 2))) ((xs (i + 3)))) (cwV 3 hts (gdL_V m_430 m_431 m_432 m_33 m_433) rfl rfl rfl hd_M_poke ⟨Nat.le_of_ble_eq_true rfl, Nat.le_of_ble_eq_true rfl⟩) hK hXs hP hD hA hS rfl hl.1 rfl (Nat.le_of_ble_eq_true rfl) d_L_law_209 ⟨Nat.le_of_ble_eq_true rfl, Nat.le_of_ble_eq_true rfl⟩ (fun r_ v_ H locs hw hP hD hS => ?_)
  have hw1 : r_ = ((poR n d ((xs (i + 1))) ((xs (i + 2))) ((xs (i + 3)))).1) := hw.1
  obtain ⟨t2, m2, hw2⟩ := hw.2
  have hw1 := hw1.symm; subst hw1
  have hw2 := hw2.symm; subst hw2
  refine lv_icmp_eq (tgt := 759) hx hb d_L_law_212 (by decide) (fun _ => ?_) (fun c9 => absurd (rfl) c9)
  exact kk _ _ _ _ _ hP hD hS
set_option maxHeartbeats 4000000 in
set_option maxRecDepth 100000 in
theorem lc_3 {p : Program} {l : Launch} {e : Env} {s : State} {m : MethodId} {below : List Frame} {meth : Method} {c : Code} {D : va_G} {h k : Nat → Nat} {cA : ClassId} {cI : Nat → ClassId} {n tb b L : Nat} {xs : Nat → Int32} (hL : L ≤ 4609) (C0 : lw_At p s m meth c b L xs) (hn : 12 ≤ n) (hn2 : n ≤ 24) (hK : va_K D classes [(cA, .byte), (cI 1, .int), (cI 2, .int), (cI 3, .int)] s) (hXs : cX tb (fun q : Nat => s.heap.size ≤ q) s s.heap) {i : Nat} (hi : i + 9 ≤ L) {d t mk : Nat → BitVec 8} {H : Heap} {locs : List Loc} {ls : Array Slot} (hP : va_P D classes (cW h cA n d ++ mW k cI n (mU d t mk)) H) (hD : va_D (fun q : Nat => s.heap.size ≤ q) (cW h cA n d ++ mW k cI n (mU d t mk))) (hS : va_S (fun q : Nat => s.heap.size ≤ q) s.heap H locs) (hl : lv_has ls 4 [(3, .int (nI (i))), (2, .ref (k 0)), (1, .ref (h 0)), (0, .ref (b))]) (kk : ∀ (d t mk : Nat → BitVec 8) (H : Heap) (locs : List Loc), va_P D classes (cW h cA n d ++ mW k cI n (mU d t mk)) H → va_D (fun q : Nat => s.heap.size ≤ q) (cW h cA n d ++ mW k cI n (mU d t mk)) → va_S (fun q : Nat => s.heap.size ≤ q) s.heap H locs → W p l e room_1 s m #[Value.ref b] below meth c H locs 9 25641 (lw_Z below #[Value.ref b] s) (F0 m 759 ls [])) : W p l e room_1 s m #[Value.ref b] below meth c H locs 9 25641 (lw_Z below #[Value.ref b] s) (F0 m 217 ls []) := by
  obtain ⟨hx, hb, hr, hml, hown, hts, hX, hbl, hlocks, hgv⟩ := C0
  have hown : s.vm.findClass R_L = some m.cls := hown
  have hA : ∀ q : Nat, s.heap.size ≤ q → (fun q : Nat => s.heap.size ≤ q) q := fun _ h => h
  have hbA : ¬ (fun q : Nat => s.heap.size ≤ q) b := Nat.not_le.mpr hbl
  refine lv_aload_n hx hb d_L_law_217 rfl (lv_at hl 2 rfl) ?_
  refine lv_aload_n hx hb d_L_law_218 rfl (lv_at hl 3 rfl) ?_
  refine lv_iload_n hx hb d_L_law_219 rfl (lv_at hl 0 rfl) ?_
  refine lv_iconst (v := nI 1) hx hb d_L_law_220 rfl ?_
  refine lv_iaddN hx hb d_L_law_221 ?_
  refine l_sld hx hb hX hbl hbA hS (a := i + 1) (by omega) hL d_L_law_222 ?_
  refine lv_i2l hx hb d_L_law_223 rfl ?_
  refine lv_bipush (v := nI 32) hx hb d_L_law_224 rfl ?_
  refine lv_lshl hx hb d_L_law_226 rfl ?_
  refine lv_aload_n hx hb d_L_law_227 rfl (lv_at hl 3 rfl) ?_
  refine lv_iload_n hx hb d_L_law_228 rfl (lv_at hl 0 rfl) ?_
  refine lv_iconst (v := nI 2) hx hb d_L_law_229 rfl ?_
  refine lv_iaddN hx hb d_L_law_230 ?_
  refine l_sld hx hb hX hbl hbA hS (a := i + 2) (by omega) hL d_L_law_231 ?_
  refine lv_i2l hx hb d_L_law_232 rfl ?_
  refine lv_ldc2 (v := 4294967295) hx hb hown (hts _ (ALL_in _ m_593).1) d_L_law_233 ?_
  refine lv_land hx hb d_L_law_236 ?_
  refine lv_lor hx hb d_L_law_237 ?_
  refine lw_Cv (tb := tb) (As := [.long ((((xs (i + 1)).toInt64) <<< ((nI (32)).toInt64 &&& 63)) ||| (((xs (i + 2)).toInt64) &&& (4294967295)))]) (rest := []) (index := 38) hx hb hml hown hts (c_T_format l D h cA n tb (va_A (cW h cA n d) H.size) hn hn2 d (((((xs (i + 1)).toInt64) <<< ((nI (32)).toInt64 &&& 63)) ||| (((xs (i + 2)).toInt64) &&& (4294967295))))) (cwV 1 hts (gdL_V m_127 m_128 m_129 m_30 m_130) rfl rfl rfl hd_T_format ⟨Nat.le_of_ble_eq_true rfl, Nat.le_of_ble_eq_true rfl⟩) hK hXs hP hD hA hS rfl hl.1 rfl (Nat.le_of_ble_eq_true rfl) d_L_law_238 ⟨Nat.le_of_ble_eq_true rfl, Nat.le_of_ble_eq_true rfl⟩ (fun v_ H locs hw hP hD hS => ?_)
  have hw2 : v_ = foR n d (((((xs (i + 1)).toInt64) <<< ((nI (32)).toInt64 &&& 63)) ||| (((xs (i + 2)).toInt64) &&& (4294967295)))) := hw
  have hw2 := hw2.symm; subst hw2
  refine lv_aload_n hx hb d_L_law_241 rfl (lv_at hl 1 rfl) ?_
  refine lv_aload_n hx hb d_L_law_242 rfl (lv_at hl 3 rfl) ?_
  refine lv_iload_n hx hb d_L_law_243 rfl (lv_at hl 0 rfl) ?_
  refine lv_iconst (v := nI 1) hx hb d_L_law_244 rfl ?_
  refine lv_iaddN hx hb d_L_law_245 ?_
  refine l_sld hx hb hX hbl hbA hS (a := i + 1) (by omega) hL d_L_law_246 ?_
  refine lv_i2l hx hb d_L_law_247 rfl ?_
  refine lv_bipush (v := nI 32) hx hb d_L_law_248 rfl ?_
  refine lv_lshl hx hb d_L_law_250 rfl ?_
  refine lv_aload_n hx hb d_L_law_251 rfl (lv_at hl 3 rfl) ?_
  refine lv_iload_n hx hb d_L_law_252 rfl (lv_at hl 0 rfl) ?_
  refine lv_iconst (v := nI 2) hx hb d_L_law_253 rfl ?_
  refine lv_iaddN hx hb d_L_law_254 ?_
  refine l_sld hx hb hX hbl hbA hS (a := i + 2) (by omega) hL d_L_law_255 ?_
  refine lv_i2l hx hb d_L_law_256 rfl ?_
  refine lv_ldc2 (v := 4294967295) hx hb hown (hts _ (ALL_in _ m_593).1) d_L_law_257 ?_
  refine lv_land hx hb d_L_law_260 ?_
  refine lv_lor hx hb d_L_law_261 ?_
  refine lw_Mv (tb := tb) (As := [.long ((((xs (i + 1)).toInt64) <<< ((nI (32)).toInt64 &&& 63)) ||| (((xs (i + 2)).toInt64) &&& (4294967295)))]) (rest := []) (index := 42) hx hb hml hown hts (c_M_format l D k cI n (va_A (mW k cI n (mU d t mk)) H.size) hn hn2 d t mk (((((xs (i + 1)).toInt64) <<< ((nI (32)).toInt64 &&& 63)) ||| (((xs (i + 2)).toInt64) &&& (4294967295))))) (cwV 1 hts (gdL_V m_517 m_518 m_519 m_33 m_520) rfl rfl rfl hd_M_format ⟨Nat.le_of_ble_eq_true rfl, Nat.le_of_ble_eq_true rfl⟩) hK hXs hP hD hA hS rfl hl.1 rfl (Nat.le_of_ble_eq_true rfl) d_L_law_262 ⟨Nat.le_of_ble_eq_true rfl, Nat.le_of_ble_eq_true rfl⟩ (fun v_ H locs hw hP hD hS => ?_)
  obtain ⟨t2, m2, hw2⟩ := hw
  have hw2 := hw2.symm; subst hw2
  refine lv_goto (tgt := 759) hx hb d_L_law_265 (by decide) ?_
  exact kk _ _ _ _ _ hP hD hS
set_option maxHeartbeats 4000000 in
set_option maxRecDepth 100000 in
theorem lc_4 {p : Program} {l : Launch} {e : Env} {s : State} {m : MethodId} {below : List Frame} {meth : Method} {c : Code} {D : va_G} {h k : Nat → Nat} {cA : ClassId} {cI : Nat → ClassId} {n tb b L : Nat} {xs : Nat → Int32} (hL : L ≤ 4609) (C0 : lw_At p s m meth c b L xs) (hn : 12 ≤ n) (hn2 : n ≤ 24) (hK : va_K D classes [(cA, .byte), (cI 1, .int), (cI 2, .int), (cI 3, .int)] s) (hXs : cX tb (fun q : Nat => s.heap.size ≤ q) s s.heap) {i : Nat} (hi : i + 9 ≤ L) {d t mk : Nat → BitVec 8} {H : Heap} {locs : List Loc} {ls : Array Slot} (hP : va_P D classes (cW h cA n d ++ mW k cI n (mU d t mk)) H) (hD : va_D (fun q : Nat => s.heap.size ≤ q) (cW h cA n d ++ mW k cI n (mU d t mk))) (hS : va_S (fun q : Nat => s.heap.size ≤ q) s.heap H locs) (hl : lv_has ls 4 [(3, .int (nI (i))), (2, .ref (k 0)), (1, .ref (h 0)), (0, .ref (b))]) (kk : ∀ (d t mk : Nat → BitVec 8) (H : Heap) (locs : List Loc), va_P D classes (cW h cA n d ++ mW k cI n (mU d t mk)) H → va_D (fun q : Nat => s.heap.size ≤ q) (cW h cA n d ++ mW k cI n (mU d t mk)) → va_S (fun q : Nat => s.heap.size ≤ q) s.heap H locs → W p l e room_1 s m #[Value.ref b] below meth c H locs 9 25641 (lw_Z below #[Value.ref b] s) (F0 m 759 ls [])) : W p l e room_1 s m #[Value.ref b] below meth c H locs 9 25641 (lw_Z below #[Value.ref b] s) (F0 m 268 ls []) := by
  obtain ⟨hx, hb, hr, hml, hown, hts, hX, hbl, hlocks, hgv⟩ := C0
  have hown : s.vm.findClass R_L = some m.cls := hown
  have hA : ∀ q : Nat, s.heap.size ≤ q → (fun q : Nat => s.heap.size ≤ q) q := fun _ h => h
  have hbA : ¬ (fun q : Nat => s.heap.size ≤ q) b := Nat.not_le.mpr hbl
  refine lv_aload_n hx hb d_L_law_268 rfl (lv_at hl 2 rfl) ?_
  refine lv_aload_n hx hb d_L_law_269 rfl (lv_at hl 3 rfl) ?_
  refine lv_iload_n hx hb d_L_law_270 rfl (lv_at hl 0 rfl) ?_
  refine lv_iconst (v := nI 1) hx hb d_L_law_271 rfl ?_
  refine lv_iaddN hx hb d_L_law_272 ?_
  refine l_sld hx hb hX hbl hbA hS (a := i + 1) (by omega) hL d_L_law_273 ?_
  refine lw_Ci (tb := tb) (As := [.int (xs (i + 1))]) (rest := []) (index := 43) hx hb hml hown hts (c_T_seal l D h cA n tb (va_A (cW h cA n d) H.size) hn hn2 d ((xs (i + 1)))) (cwV 1 hts (gdL_V m_219 m_220 m_221 m_30 m_222) rfl rfl rfl hd_T_seal ⟨Nat.le_of_ble_eq_true rfl, Nat.le_of_ble_eq_true rfl⟩) hK hXs hP hD hA hS rfl hl.1 rfl (Nat.le_of_ble_eq_true rfl) d_L_law_274 ⟨Nat.le_of_ble_eq_true rfl, Nat.le_of_ble_eq_true rfl⟩ (fun r_ v_ H locs hw hP hD hS => ?_)
  have hw1 : r_ = (seR n d ((xs (i + 1)))).1 := congrArg Prod.fst hw
  have hw2 : v_ = (seR n d ((xs (i + 1)))).2 := congrArg Prod.snd hw
  have hw1 := hw1.symm; subst hw1
  have hw2 := hw2.symm; subst hw2
  refine lv_aload_n hx hb d_L_law_277 rfl (lv_at hl 1 rfl) ?_
  refine lv_aload_n hx hb d_L_law_278 rfl (lv_at hl 3 rfl) ?_
  refine lv_iload_n hx hb d_L_law_279 rfl (lv_at hl 0 rfl) ?_
  refine lv_iconst (v := nI 1) hx hb d_L_law_280 rfl ?_
  refine lv_iaddN hx hb d_L_law_281 ?_
  refine l_sld hx hb hX hbl hbA hS (a := i + 1) (by omega) hL d_L_law_282 ?_
  refine lw_Mi (tb := tb) (As := [.int (xs (i + 1))]) (rest := [.int ((seR n d ((xs (i + 1)))).1)]) (index := 47) hx hb hml hown hts (c_M_seal l D k cI n (va_A (mW k cI n (mU d t mk)) H.size) hn hn2 d t mk ((xs (i + 1)))) (cwV 1 hts (gdL_V m_509 m_510 m_511 m_33 m_512) rfl rfl rfl hd_M_seal ⟨Nat.le_of_ble_eq_true rfl, Nat.le_of_ble_eq_true rfl⟩) hK hXs hP hD hA hS rfl hl.1 rfl (Nat.le_of_ble_eq_true rfl) d_L_law_283 ⟨Nat.le_of_ble_eq_true rfl, Nat.le_of_ble_eq_true rfl⟩ (fun r_ v_ H locs hw hP hD hS => ?_)
  have hw1 : r_ = ((seR n d ((xs (i + 1)))).1) := hw.1
  obtain ⟨t2, m2, hw2⟩ := hw.2
  have hw1 := hw1.symm; subst hw1
  have hw2 := hw2.symm; subst hw2
  refine lv_icmp_eq (tgt := 759) hx hb d_L_law_286 (by decide) (fun _ => ?_) (fun c9 => absurd (rfl) c9)
  exact kk _ _ _ _ _ hP hD hS
set_option maxHeartbeats 4000000 in
set_option maxRecDepth 100000 in
theorem lc_5 {p : Program} {l : Launch} {e : Env} {s : State} {m : MethodId} {below : List Frame} {meth : Method} {c : Code} {D : va_G} {h k : Nat → Nat} {cA : ClassId} {cI : Nat → ClassId} {n tb b L : Nat} {xs : Nat → Int32} (hL : L ≤ 4609) (C0 : lw_At p s m meth c b L xs) (hn : 12 ≤ n) (hn2 : n ≤ 24) (hK : va_K D classes [(cA, .byte), (cI 1, .int), (cI 2, .int), (cI 3, .int)] s) (hXs : cX tb (fun q : Nat => s.heap.size ≤ q) s s.heap) {i : Nat} (hi : i + 9 ≤ L) {d t mk : Nat → BitVec 8} {H : Heap} {locs : List Loc} {ls : Array Slot} (hP : va_P D classes (cW h cA n d ++ mW k cI n (mU d t mk)) H) (hD : va_D (fun q : Nat => s.heap.size ≤ q) (cW h cA n d ++ mW k cI n (mU d t mk))) (hS : va_S (fun q : Nat => s.heap.size ≤ q) s.heap H locs) (hl : lv_has ls 4 [(3, .int (nI (i))), (2, .ref (k 0)), (1, .ref (h 0)), (0, .ref (b))]) (kk : ∀ (d t mk : Nat → BitVec 8) (H : Heap) (locs : List Loc), va_P D classes (cW h cA n d ++ mW k cI n (mU d t mk)) H → va_D (fun q : Nat => s.heap.size ≤ q) (cW h cA n d ++ mW k cI n (mU d t mk)) → va_S (fun q : Nat => s.heap.size ≤ q) s.heap H locs → W p l e room_1 s m #[Value.ref b] below meth c H locs 9 25641 (lw_Z below #[Value.ref b] s) (F0 m 759 ls [])) : W p l e room_1 s m #[Value.ref b] below meth c H locs 9 25641 (lw_Z below #[Value.ref b] s) (F0 m 291 ls []) := by
  obtain ⟨hx, hb, hr, hml, hown, hts, hX, hbl, hlocks, hgv⟩ := C0
  have hown : s.vm.findClass R_L = some m.cls := hown
  have hA : ∀ q : Nat, s.heap.size ≤ q → (fun q : Nat => s.heap.size ≤ q) q := fun _ h => h
  have hbA : ¬ (fun q : Nat => s.heap.size ≤ q) b := Nat.not_le.mpr hbl
  refine lv_aload_n hx hb d_L_law_291 rfl (lv_at hl 2 rfl) ?_
  refine lw_Ci (tb := tb) (As := []) (rest := []) (index := 48) hx hb hml hown hts (c_T_guard l D h cA n tb (va_A (cW h cA n d) H.size) hn hn2 d ) (cwV 0 hts (gdL_V m_228 m_229 m_230 m_30 m_231) rfl rfl rfl hd_T_guard ⟨Nat.le_of_ble_eq_true rfl, Nat.le_of_ble_eq_true rfl⟩) hK hXs hP hD hA hS rfl hl.1 rfl (Nat.le_of_ble_eq_true rfl) d_L_law_292 ⟨Nat.le_of_ble_eq_true rfl, Nat.le_of_ble_eq_true rfl⟩ (fun r_ v_ H locs hw hP hD hS => ?_)
  have hw1 : r_ = (bI (gdR n d)) := hw.1
  have hw2 : v_ = d := hw.2
  have hw1 := hw1.symm; subst hw1
  have hw2 := hw2.symm; subst hw2
  refine lv_aload_n hx hb d_L_law_295 rfl (lv_at hl 1 rfl) ?_
  refine lw_Mi (tb := tb) (As := []) (rest := [.int (bI (gdR n d))]) (index := 52) hx hb hml hown hts (c_M_guard l D k cI n (va_A (mW k cI n (mU d t mk)) H.size) hn hn2 d t mk ) (cwV 0 hts (gdL_V m_446 m_447 m_448 m_33 m_449) rfl rfl rfl hd_M_guard ⟨Nat.le_of_ble_eq_true rfl, Nat.le_of_ble_eq_true rfl⟩) hK hXs hP hD hA hS rfl hl.1 rfl (Nat.le_of_ble_eq_true rfl) d_L_law_296 ⟨Nat.le_of_ble_eq_true rfl, Nat.le_of_ble_eq_true rfl⟩ (fun r_ v_ H locs hw hP hD hS => ?_)
  have hw1 : r_ = (bI (gdR n d)) := hw.1
  have hw2 : v_ = mU d t mk := hw.2
  have hw1 := hw1.symm; subst hw1
  have hw2 := hw2.symm; subst hw2
  refine lv_icmp_eq (tgt := 759) hx hb d_L_law_299 (by decide) (fun _ => ?_) (fun c9 => absurd (rfl) c9)
  exact kk _ _ _ _ _ hP hD hS
set_option maxHeartbeats 4000000 in
set_option maxRecDepth 100000 in
theorem lc_6 {p : Program} {l : Launch} {e : Env} {s : State} {m : MethodId} {below : List Frame} {meth : Method} {c : Code} {D : va_G} {h k : Nat → Nat} {cA : ClassId} {cI : Nat → ClassId} {n tb b L : Nat} {xs : Nat → Int32} (hL : L ≤ 4609) (C0 : lw_At p s m meth c b L xs) (hn : 12 ≤ n) (hn2 : n ≤ 24) (hK : va_K D classes [(cA, .byte), (cI 1, .int), (cI 2, .int), (cI 3, .int)] s) (hXs : cX tb (fun q : Nat => s.heap.size ≤ q) s s.heap) {i : Nat} (hi : i + 9 ≤ L) {d t mk : Nat → BitVec 8} {H : Heap} {locs : List Loc} {ls : Array Slot} (hP : va_P D classes (cW h cA n d ++ mW k cI n (mU d t mk)) H) (hD : va_D (fun q : Nat => s.heap.size ≤ q) (cW h cA n d ++ mW k cI n (mU d t mk))) (hS : va_S (fun q : Nat => s.heap.size ≤ q) s.heap H locs) (hl : lv_has ls 4 [(3, .int (nI (i))), (2, .ref (k 0)), (1, .ref (h 0)), (0, .ref (b))]) (kk : ∀ (d t mk : Nat → BitVec 8) (H : Heap) (locs : List Loc), va_P D classes (cW h cA n d ++ mW k cI n (mU d t mk)) H → va_D (fun q : Nat => s.heap.size ≤ q) (cW h cA n d ++ mW k cI n (mU d t mk)) → va_S (fun q : Nat => s.heap.size ≤ q) s.heap H locs → W p l e room_1 s m #[Value.ref b] below meth c H locs 9 25641 (lw_Z below #[Value.ref b] s) (F0 m 759 ls [])) : W p l e room_1 s m #[Value.ref b] below meth c H locs 9 25641 (lw_Z below #[Value.ref b] s) (F0 m 304 ls []) := by
  obtain ⟨hx, hb, hr, hml, hown, hts, hX, hbl, hlocks, hgv⟩ := C0
  have hown : s.vm.findClass R_L = some m.cls := hown
  have hA : ∀ q : Nat, s.heap.size ≤ q → (fun q : Nat => s.heap.size ≤ q) q := fun _ h => h
  have hbA : ¬ (fun q : Nat => s.heap.size ≤ q) b := Nat.not_le.mpr hbl
  refine lv_aload_n hx hb d_L_law_304 rfl (lv_at hl 2 rfl) ?_
  refine lv_aload_n hx hb d_L_law_305 rfl (lv_at hl 3 rfl) ?_
  refine lv_iload_n hx hb d_L_law_306 rfl (lv_at hl 0 rfl) ?_
  refine lv_iconst (v := nI 1) hx hb d_L_law_307 rfl ?_
  refine lv_iaddN hx hb d_L_law_308 ?_
  refine l_sld hx hb hX hbl hbA hS (a := i + 1) (by omega) hL d_L_law_309 ?_
  refine lw_Ci (tb := tb) (As := [.int (xs (i + 1))]) (rest := []) (index := 53) hx hb hml hown hts (c_T_fault l D h cA n tb (va_A (cW h cA n d) H.size) hn hn2 d ((xs (i + 1)))) (cwV 1 hts (gdL_V m_237 m_238 m_239 m_30 m_240) rfl rfl rfl hd_T_fault ⟨Nat.le_of_ble_eq_true rfl, Nat.le_of_ble_eq_true rfl⟩) hK hXs hP hD hA hS rfl hl.1 rfl (Nat.le_of_ble_eq_true rfl) d_L_law_310 ⟨Nat.le_of_ble_eq_true rfl, Nat.le_of_ble_eq_true rfl⟩ (fun r_ v_ H locs hw hP hD hS => ?_)
  have hw1 : r_ = (faR n d ((xs (i + 1)))) := hw.1
  have hw2 : v_ = d := hw.2
  have hw1 := hw1.symm; subst hw1
  have hw2 := hw2.symm; subst hw2
  refine lv_aload_n hx hb d_L_law_313 rfl (lv_at hl 1 rfl) ?_
  refine lv_aload_n hx hb d_L_law_314 rfl (lv_at hl 3 rfl) ?_
  refine lv_iload_n hx hb d_L_law_315 rfl (lv_at hl 0 rfl) ?_
  refine lv_iconst (v := nI 1) hx hb d_L_law_316 rfl ?_
  refine lv_iaddN hx hb d_L_law_317 ?_
  refine l_sld hx hb hX hbl hbA hS (a := i + 1) (by omega) hL d_L_law_318 ?_
  refine lw_Mi (tb := tb) (As := [.int (xs (i + 1))]) (rest := [.int (faR n d ((xs (i + 1))))]) (index := 57) hx hb hml hown hts (c_M_fault l D k cI n (va_A (mW k cI n (mU d t mk)) H.size) hn hn2 d t mk ((xs (i + 1)))) (cwV 1 hts (gdL_V m_453 m_454 m_455 m_33 m_456) rfl rfl rfl hd_M_fault ⟨Nat.le_of_ble_eq_true rfl, Nat.le_of_ble_eq_true rfl⟩) hK hXs hP hD hA hS rfl hl.1 rfl (Nat.le_of_ble_eq_true rfl) d_L_law_319 ⟨Nat.le_of_ble_eq_true rfl, Nat.le_of_ble_eq_true rfl⟩ (fun r_ v_ H locs hw hP hD hS => ?_)
  have hw1 : r_ = (faR n d ((xs (i + 1)))) := hw.1
  obtain ⟨t2, m2, hw2⟩ := hw.2
  have hw1 := hw1.symm; subst hw1
  have hw2 := hw2.symm; subst hw2
  refine lv_icmp_eq (tgt := 759) hx hb d_L_law_322 (by decide) (fun _ => ?_) (fun c9 => absurd (rfl) c9)
  exact kk _ _ _ _ _ hP hD hS
set_option maxHeartbeats 4000000 in
set_option maxRecDepth 100000 in
theorem lc_7 {p : Program} {l : Launch} {e : Env} {s : State} {m : MethodId} {below : List Frame} {meth : Method} {c : Code} {D : va_G} {h k : Nat → Nat} {cA : ClassId} {cI : Nat → ClassId} {n tb b L : Nat} {xs : Nat → Int32} (hL : L ≤ 4609) (C0 : lw_At p s m meth c b L xs) (hn : 12 ≤ n) (hn2 : n ≤ 24) (hK : va_K D classes [(cA, .byte), (cI 1, .int), (cI 2, .int), (cI 3, .int)] s) (hXs : cX tb (fun q : Nat => s.heap.size ≤ q) s s.heap) {i : Nat} (hi : i + 9 ≤ L) {d t mk : Nat → BitVec 8} {H : Heap} {locs : List Loc} {ls : Array Slot} (hP : va_P D classes (cW h cA n d ++ mW k cI n (mU d t mk)) H) (hD : va_D (fun q : Nat => s.heap.size ≤ q) (cW h cA n d ++ mW k cI n (mU d t mk))) (hS : va_S (fun q : Nat => s.heap.size ≤ q) s.heap H locs) (hl : lv_has ls 4 [(3, .int (nI (i))), (2, .ref (k 0)), (1, .ref (h 0)), (0, .ref (b))]) (kk : ∀ (d t mk : Nat → BitVec 8) (H : Heap) (locs : List Loc), va_P D classes (cW h cA n d ++ mW k cI n (mU d t mk)) H → va_D (fun q : Nat => s.heap.size ≤ q) (cW h cA n d ++ mW k cI n (mU d t mk)) → va_S (fun q : Nat => s.heap.size ≤ q) s.heap H locs → W p l e room_1 s m #[Value.ref b] below meth c H locs 9 25641 (lw_Z below #[Value.ref b] s) (F0 m 759 ls [])) : W p l e room_1 s m #[Value.ref b] below meth c H locs 9 25641 (lw_Z below #[Value.ref b] s) (F0 m 327 ls []) := by
  obtain ⟨hx, hb, hr, hml, hown, hts, hX, hbl, hlocks, hgv⟩ := C0
  have hown : s.vm.findClass R_L = some m.cls := hown
  have hA : ∀ q : Nat, s.heap.size ≤ q → (fun q : Nat => s.heap.size ≤ q) q := fun _ h => h
  have hbA : ¬ (fun q : Nat => s.heap.size ≤ q) b := Nat.not_le.mpr hbl
  refine lv_aload_n hx hb d_L_law_327 rfl (lv_at hl 2 rfl) ?_
  refine lw_Ci (tb := tb) (As := []) (rest := []) (index := 58) hx hb hml hown hts (c_T_source l D h cA n tb (va_A (cW h cA n d) H.size) hn hn2 d ) (cwV 0 hts (gdL_V m_286 m_287 m_288 m_30 m_289) rfl rfl rfl hd_T_source ⟨Nat.le_of_ble_eq_true rfl, Nat.le_of_ble_eq_true rfl⟩) hK hXs hP hD hA hS rfl hl.1 rfl (Nat.le_of_ble_eq_true rfl) d_L_law_328 ⟨Nat.le_of_ble_eq_true rfl, Nat.le_of_ble_eq_true rfl⟩ (fun r_ v_ H locs hw hP hD hS => ?_)
  have hw1 : r_ = (oS (src n d) (-1) nI) := hw.1
  have hw2 : v_ = d := hw.2
  have hw1 := hw1.symm; subst hw1
  have hw2 := hw2.symm; subst hw2
  refine lv_aload_n hx hb d_L_law_331 rfl (lv_at hl 1 rfl) ?_
  refine lw_Mi (tb := tb) (As := []) (rest := [.int (oS (src n d) (-1) nI)]) (index := 61) hx hb hml hown hts (c_M_source l D k cI n (va_A (mW k cI n (mU d t mk)) H.size) hn hn2 d t mk ) (cwV 0 hts (gdL_V m_504 m_505 m_506 m_33 m_507) rfl rfl rfl hd_M_source ⟨Nat.le_of_ble_eq_true rfl, Nat.le_of_ble_eq_true rfl⟩) hK hXs hP hD hA hS rfl hl.1 rfl (Nat.le_of_ble_eq_true rfl) d_L_law_332 ⟨Nat.le_of_ble_eq_true rfl, Nat.le_of_ble_eq_true rfl⟩ (fun r_ v_ H locs hw hP hD hS => ?_)
  have hw1 : r_ = (oS (src n d) (-1) nI) := hw.1
  have hw2 : v_ = mU d t mk := hw.2
  have hw1 := hw1.symm; subst hw1
  have hw2 := hw2.symm; subst hw2
  refine lv_icmp_eq (tgt := 759) hx hb d_L_law_335 (by decide) (fun _ => ?_) (fun c9 => absurd (rfl) c9)
  exact kk _ _ _ _ _ hP hD hS
set_option maxHeartbeats 4000000 in
set_option maxRecDepth 100000 in
theorem lc_8 {p : Program} {l : Launch} {e : Env} {s : State} {m : MethodId} {below : List Frame} {meth : Method} {c : Code} {D : va_G} {h k : Nat → Nat} {cA : ClassId} {cI : Nat → ClassId} {n tb b L : Nat} {xs : Nat → Int32} (hL : L ≤ 4609) (C0 : lw_At p s m meth c b L xs) (hn : 12 ≤ n) (hn2 : n ≤ 24) (hK : va_K D classes [(cA, .byte), (cI 1, .int), (cI 2, .int), (cI 3, .int)] s) (hXs : cX tb (fun q : Nat => s.heap.size ≤ q) s s.heap) {i : Nat} (hi : i + 9 ≤ L) {d t mk : Nat → BitVec 8} {H : Heap} {locs : List Loc} {ls : Array Slot} (hP : va_P D classes (cW h cA n d ++ mW k cI n (mU d t mk)) H) (hD : va_D (fun q : Nat => s.heap.size ≤ q) (cW h cA n d ++ mW k cI n (mU d t mk))) (hS : va_S (fun q : Nat => s.heap.size ≤ q) s.heap H locs) (hl : lv_has ls 4 [(3, .int (nI (i))), (2, .ref (k 0)), (1, .ref (h 0)), (0, .ref (b))]) (kk : ∀ (d t mk : Nat → BitVec 8) (H : Heap) (locs : List Loc), va_P D classes (cW h cA n d ++ mW k cI n (mU d t mk)) H → va_D (fun q : Nat => s.heap.size ≤ q) (cW h cA n d ++ mW k cI n (mU d t mk)) → va_S (fun q : Nat => s.heap.size ≤ q) s.heap H locs → W p l e room_1 s m #[Value.ref b] below meth c H locs 9 25641 (lw_Z below #[Value.ref b] s) (F0 m 759 ls [])) : W p l e room_1 s m #[Value.ref b] below meth c H locs 9 25641 (lw_Z below #[Value.ref b] s) (F0 m 340 ls []) := by
  obtain ⟨hx, hb, hr, hml, hown, hts, hX, hbl, hlocks, hgv⟩ := C0
  have hown : s.vm.findClass R_L = some m.cls := hown
  have hA : ∀ q : Nat, s.heap.size ≤ q → (fun q : Nat => s.heap.size ≤ q) q := fun _ h => h
  have hbA : ¬ (fun q : Nat => s.heap.size ≤ q) b := Nat.not_le.mpr hbl
  refine lv_aload_n hx hb d_L_law_340 rfl (lv_at hl 2 rfl) ?_
  refine lv_aload_n hx hb d_L_law_341 rfl (lv_at hl 3 rfl) ?_
  refine lv_iload_n hx hb d_L_law_342 rfl (lv_at hl 0 rfl) ?_
  refine lv_iconst (v := nI 1) hx hb d_L_law_343 rfl ?_
  refine lv_iaddN hx hb d_L_law_344 ?_
  refine l_sld hx hb hX hbl hbA hS (a := i + 1) (by omega) hL d_L_law_345 ?_
  refine lv_aload_n hx hb d_L_law_346 rfl (lv_at hl 3 rfl) ?_
  refine lv_iload_n hx hb d_L_law_347 rfl (lv_at hl 0 rfl) ?_
  refine lv_iconst (v := nI 2) hx hb d_L_law_348 rfl ?_
  refine lv_iaddN hx hb d_L_law_349 ?_
  refine l_sld hx hb hX hbl hbA hS (a := i + 2) (by omega) hL d_L_law_350 ?_
  refine lv_aload_n hx hb d_L_law_351 rfl (lv_at hl 3 rfl) ?_
  refine lv_iload_n hx hb d_L_law_352 rfl (lv_at hl 0 rfl) ?_
  refine lv_iconst (v := nI 3) hx hb d_L_law_353 rfl ?_
  refine lv_iaddN hx hb d_L_law_354 ?_
  refine l_sld hx hb hX hbl hbA hS (a := i + 3) (by omega) hL d_L_law_355 ?_
  refine lv_i2l hx hb d_L_law_356 rfl ?_
  refine lv_bipush (v := nI 32) hx hb d_L_law_357 rfl ?_
  refine lv_lshl hx hb d_L_law_359 rfl ?_
  refine lv_aload_n hx hb d_L_law_360 rfl (lv_at hl 3 rfl) ?_
  refine lv_iload_n hx hb d_L_law_361 rfl (lv_at hl 0 rfl) ?_
  refine lv_iconst (v := nI 4) hx hb d_L_law_362 rfl ?_
  refine lv_iaddN hx hb d_L_law_363 ?_
  refine l_sld hx hb hX hbl hbA hS (a := i + 4) (by omega) hL d_L_law_364 ?_
  refine lv_i2l hx hb d_L_law_365 rfl ?_
  refine lv_ldc2 (v := 4294967295) hx hb hown (hts _ (ALL_in _ m_593).1) d_L_law_366 ?_
  refine lv_land hx hb d_L_law_369 ?_
  refine lv_lor hx hb d_L_law_370 ?_
  refine lv_aload_n hx hb d_L_law_371 rfl (lv_at hl 3 rfl) ?_
  refine lv_iload_n hx hb d_L_law_372 rfl (lv_at hl 0 rfl) ?_
  refine lv_iconst (v := nI 5) hx hb d_L_law_373 rfl ?_
  refine lv_iaddN hx hb d_L_law_374 ?_
  refine l_sld hx hb hX hbl hbA hS (a := i + 5) (by omega) hL d_L_law_375 ?_
  refine lv_i2l hx hb d_L_law_376 rfl ?_
  refine lv_bipush (v := nI 32) hx hb d_L_law_377 rfl ?_
  refine lv_lshl hx hb d_L_law_379 rfl ?_
  refine lv_aload_n hx hb d_L_law_380 rfl (lv_at hl 3 rfl) ?_
  refine lv_iload_n hx hb d_L_law_381 rfl (lv_at hl 0 rfl) ?_
  refine lv_bipush (v := nI 6) hx hb d_L_law_382 rfl ?_
  refine lv_iaddN hx hb d_L_law_384 ?_
  refine l_sld hx hb hX hbl hbA hS (a := i + 6) (by omega) hL d_L_law_385 ?_
  refine lv_i2l hx hb d_L_law_386 rfl ?_
  refine lv_ldc2 (v := 4294967295) hx hb hown (hts _ (ALL_in _ m_593).1) d_L_law_387 ?_
  refine lv_land hx hb d_L_law_390 ?_
  refine lv_lor hx hb d_L_law_391 ?_
  refine lv_aload_n hx hb d_L_law_392 rfl (lv_at hl 3 rfl) ?_
  refine lv_iload_n hx hb d_L_law_393 rfl (lv_at hl 0 rfl) ?_
  refine lv_bipush (v := nI 7) hx hb d_L_law_394 rfl ?_
  refine lv_iaddN hx hb d_L_law_396 ?_
  refine l_sld hx hb hX hbl hbA hS (a := i + 7) (by omega) hL d_L_law_397 ?_
  refine lv_i2l hx hb d_L_law_398 rfl ?_
  refine lv_bipush (v := nI 32) hx hb d_L_law_399 rfl ?_
  refine lv_lshl hx hb d_L_law_401 rfl ?_
  refine lv_aload_n hx hb d_L_law_402 rfl (lv_at hl 3 rfl) ?_
  refine lv_iload_n hx hb d_L_law_403 rfl (lv_at hl 0 rfl) ?_
  refine lv_bipush (v := nI 8) hx hb d_L_law_404 rfl ?_
  refine lv_iaddN hx hb d_L_law_406 ?_
  refine l_sld hx hb hX hbl hbA hS (a := i + 8) (by omega) hL d_L_law_407 ?_
  refine lv_i2l hx hb d_L_law_408 rfl ?_
  refine lv_ldc2 (v := 4294967295) hx hb hown (hts _ (ALL_in _ m_593).1) d_L_law_409 ?_
  refine lv_land hx hb d_L_law_412 ?_
  refine lv_lor hx hb d_L_law_413 ?_
  refine lw_Ci (tb := tb) (As := [.int (xs (i + 1)), .int (xs (i + 2)), .long ((((xs (i + 3)).toInt64) <<< ((nI (32)).toInt64 &&& 63)) ||| (((xs (i + 4)).toInt64) &&& (4294967295))), .long ((((xs (i + 5)).toInt64) <<< ((nI (32)).toInt64 &&& 63)) ||| (((xs (i + 6)).toInt64) &&& (4294967295))), .long ((((xs (i + 7)).toInt64) <<< ((nI (32)).toInt64 &&& 63)) ||| (((xs (i + 8)).toInt64) &&& (4294967295)))]) (rest := []) (index := 62) hx hb hml hown hts (c_T_make l D h cA n tb (va_A (cW h cA n d) H.size) hn hn2 d ((xs (i + 1))) ((xs (i + 2))) (((((xs (i + 3)).toInt64) <<< ((nI (32)).toInt64 &&& 63)) ||| (((xs (i + 4)).toInt64) &&& (4294967295)))) (((((xs (i + 5)).toInt64) <<< ((nI (32)).toInt64 &&& 63)) ||| (((xs (i + 6)).toInt64) &&& (4294967295)))) (((((xs (i + 7)).toInt64) <<< ((nI (32)).toInt64 &&& 63)) ||| (((xs (i + 8)).toInt64) &&& (4294967295))))) (cwV 5 hts (gdL_V m_294 m_295 m_296 m_30 m_297) rfl rfl rfl hd_T_make ⟨Nat.le_of_ble_eq_true rfl, Nat.le_of_ble_eq_true rfl⟩) hK hXs hP hD hA hS rfl hl.1 rfl (Nat.le_of_ble_eq_true rfl) d_L_law_414 ⟨Nat.le_of_ble_eq_true rfl, Nat.le_of_ble_eq_true rfl⟩ (fun r_ v_ H locs hw hP hD hS => ?_)
  have hw1 : r_ = (maR n d ((xs (i + 1))) ((xs (i + 2))) (((((xs (i + 3)).toInt64) <<< ((nI (32)).toInt64 &&& 63)) ||| (((xs (i + 4)).toInt64) &&& (4294967295)))) (((((xs (i + 5)).toInt64) <<< ((nI (32)).toInt64 &&& 63)) ||| (((xs (i + 6)).toInt64) &&& (4294967295)))) (((((xs (i + 7)).toInt64) <<< ((nI (32)).toInt64 &&& 63)) ||| (((xs (i + 8)).toInt64) &&& (4294967295))))).1 := congrArg Prod.fst hw
  have hw2 : v_ = (maR n d ((xs (i + 1))) ((xs (i + 2))) (((((xs (i + 3)).toInt64) <<< ((nI (32)).toInt64 &&& 63)) ||| (((xs (i + 4)).toInt64) &&& (4294967295)))) (((((xs (i + 5)).toInt64) <<< ((nI (32)).toInt64 &&& 63)) ||| (((xs (i + 6)).toInt64) &&& (4294967295)))) (((((xs (i + 7)).toInt64) <<< ((nI (32)).toInt64 &&& 63)) ||| (((xs (i + 8)).toInt64) &&& (4294967295))))).2 := congrArg Prod.snd hw
  have hw1 := hw1.symm; subst hw1
  have hw2 := hw2.symm; subst hw2
  refine lv_aload_n hx hb d_L_law_417 rfl (lv_at hl 1 rfl) ?_
  refine lv_aload_n hx hb d_L_law_418 rfl (lv_at hl 3 rfl) ?_
  refine lv_iload_n hx hb d_L_law_419 rfl (lv_at hl 0 rfl) ?_
  refine lv_iconst (v := nI 1) hx hb d_L_law_420 rfl ?_
  refine lv_iaddN hx hb d_L_law_421 ?_
  refine l_sld hx hb hX hbl hbA hS (a := i + 1) (by omega) hL d_L_law_422 ?_
  refine lv_aload_n hx hb d_L_law_423 rfl (lv_at hl 3 rfl) ?_
  refine lv_iload_n hx hb d_L_law_424 rfl (lv_at hl 0 rfl) ?_
  refine lv_iconst (v := nI 2) hx hb d_L_law_425 rfl ?_
  refine lv_iaddN hx hb d_L_law_426 ?_
  refine l_sld hx hb hX hbl hbA hS (a := i + 2) (by omega) hL d_L_law_427 ?_
  refine lv_aload_n hx hb d_L_law_428 rfl (lv_at hl 3 rfl) ?_
  refine lv_iload_n hx hb d_L_law_429 rfl (lv_at hl 0 rfl) ?_
  refine lv_iconst (v := nI 3) hx hb d_L_law_430 rfl ?_
  refine lv_iaddN hx hb d_L_law_431 ?_
  refine l_sld hx hb hX hbl hbA hS (a := i + 3) (by omega) hL d_L_law_432 ?_
  refine lv_i2l hx hb d_L_law_433 rfl ?_
  refine lv_bipush (v := nI 32) hx hb d_L_law_434 rfl ?_
  refine lv_lshl hx hb d_L_law_436 rfl ?_
  refine lv_aload_n hx hb d_L_law_437 rfl (lv_at hl 3 rfl) ?_
  refine lv_iload_n hx hb d_L_law_438 rfl (lv_at hl 0 rfl) ?_
  refine lv_iconst (v := nI 4) hx hb d_L_law_439 rfl ?_
  refine lv_iaddN hx hb d_L_law_440 ?_
  refine l_sld hx hb hX hbl hbA hS (a := i + 4) (by omega) hL d_L_law_441 ?_
  refine lv_i2l hx hb d_L_law_442 rfl ?_
  refine lv_ldc2 (v := 4294967295) hx hb hown (hts _ (ALL_in _ m_593).1) d_L_law_443 ?_
  refine lv_land hx hb d_L_law_446 ?_
  refine lv_lor hx hb d_L_law_447 ?_
  refine lv_aload_n hx hb d_L_law_448 rfl (lv_at hl 3 rfl) ?_
  refine lv_iload_n hx hb d_L_law_449 rfl (lv_at hl 0 rfl) ?_
  refine lv_iconst (v := nI 5) hx hb d_L_law_450 rfl ?_
  refine lv_iaddN hx hb d_L_law_451 ?_
  refine l_sld hx hb hX hbl hbA hS (a := i + 5) (by omega) hL d_L_law_452 ?_
  refine lv_i2l hx hb d_L_law_453 rfl ?_
  refine lv_bipush (v := nI 32) hx hb d_L_law_454 rfl ?_
  refine lv_lshl hx hb d_L_law_456 rfl ?_
  refine lv_aload_n hx hb d_L_law_457 rfl (lv_at hl 3 rfl) ?_
  refine lv_iload_n hx hb d_L_law_458 rfl (lv_at hl 0 rfl) ?_
  refine lv_bipush (v := nI 6) hx hb d_L_law_459 rfl ?_
  refine lv_iaddN hx hb d_L_law_461 ?_
  refine l_sld hx hb hX hbl hbA hS (a := i + 6) (by omega) hL d_L_law_462 ?_
  refine lv_i2l hx hb d_L_law_463 rfl ?_
  refine lv_ldc2 (v := 4294967295) hx hb hown (hts _ (ALL_in _ m_593).1) d_L_law_464 ?_
  refine lv_land hx hb d_L_law_467 ?_
  refine lv_lor hx hb d_L_law_468 ?_
  refine lv_aload_n hx hb d_L_law_469 rfl (lv_at hl 3 rfl) ?_
  refine lv_iload_n hx hb d_L_law_470 rfl (lv_at hl 0 rfl) ?_
  refine lv_bipush (v := nI 7) hx hb d_L_law_471 rfl ?_
  refine lv_iaddN hx hb d_L_law_473 ?_
  refine l_sld hx hb hX hbl hbA hS (a := i + 7) (by omega) hL d_L_law_474 ?_
  refine lv_i2l hx hb d_L_law_475 rfl ?_
  refine lv_bipush (v := nI 32) hx hb d_L_law_476 rfl ?_
  refine lv_lshl hx hb d_L_law_478 rfl ?_
  refine lv_aload_n hx hb d_L_law_479 rfl (lv_at hl 3 rfl) ?_
  refine lv_iload_n hx hb d_L_law_480 rfl (lv_at hl 0 rfl) ?_
  refine lv_bipush (v := nI 8) hx hb d_L_law_481 rfl ?_
  refine lv_iaddN hx hb d_L_law_483 ?_
  refine l_sld hx hb hX hbl hbA hS (a := i + 8) (by omega) hL d_L_law_484 ?_
  refine lv_i2l hx hb d_L_law_485 rfl ?_
  refine lv_ldc2 (v := 4294967295) hx hb hown (hts _ (ALL_in _ m_593).1) d_L_law_486 ?_
  refine lv_land hx hb d_L_law_489 ?_
  refine lv_lor hx hb d_L_law_490 ?_
  refine lw_Mi (tb := tb) (As := [.int (xs (i + 1)), .int (xs (i + 2)), .long ((((xs (i + 3)).toInt64) <<< ((nI (32)).toInt64 &&& 63)) ||| (((xs (i + 4)).toInt64) &&& (4294967295))), .long ((((xs (i + 5)).toInt64) <<< ((nI (32)).toInt64 &&& 63)) ||| (((xs (i + 6)).toInt64) &&& (4294967295))), .long ((((xs (i + 7)).toInt64) <<< ((nI (32)).toInt64 &&& 63)) ||| (((xs (i + 8)).toInt64) &&& (4294967295)))]) (rest := [.int ((maR n d ((xs (i + 1))) ((xs (i + 2))) (((((xs (i + 3)).toInt64) <<< ((nI (32)).toInt64 &&& 63)) ||| (((xs (i + 4)).toInt64) &&& (4294967295)))) (((((xs (i + 5)).toInt64) <<< ((nI (32)).toInt64 &&& 63)) ||| (((xs (i + 6)).toInt64) &&& (4294967295)))) (((((xs (i + 7)).toInt64) <<< ((nI (32)).toInt64 &&& 63)) ||| (((xs (i + 8)).toInt64) &&& (4294967295))))).1)]) (index := 66) hx hb hml hown hts (c_M_make l D k cI n (va_A (mW k cI n (mU d t mk)) H.size) hn hn2 d t mk ((xs (i + 1))) ((xs (i + 2))) (((((xs (i + 3)).toInt64) <<< ((nI (32)).toInt64 &&& 63)) ||| (((xs (i + 4)).toInt64) &&& (4294967295)))) (((((xs (i + 5)).toInt64) <<< ((nI (32)).toInt64 &&& 63)) ||| (((xs (i + 6)).toInt64) &&& (4294967295)))) (((((xs (i + 7)).toInt64) <<< ((nI (32)).toInt64 &&& 63)) ||| (((xs (i + 8)).toInt64) &&& (4294967295))))) (cwV 5 hts (gdL_V m_539 m_540 m_541 m_33 m_542) rfl rfl rfl hd_M_make ⟨Nat.le_of_ble_eq_true rfl, Nat.le_of_ble_eq_true rfl⟩) hK hXs hP hD hA hS rfl hl.1 rfl (Nat.le_of_ble_eq_true rfl) d_L_law_491 ⟨Nat.le_of_ble_eq_true rfl, Nat.le_of_ble_eq_true rfl⟩ (fun r_ v_ H locs hw hP hD hS => ?_)
  have hw1 : r_ = ((maR n d ((xs (i + 1))) ((xs (i + 2))) (((((xs (i + 3)).toInt64) <<< ((nI (32)).toInt64 &&& 63)) ||| (((xs (i + 4)).toInt64) &&& (4294967295)))) (((((xs (i + 5)).toInt64) <<< ((nI (32)).toInt64 &&& 63)) ||| (((xs (i + 6)).toInt64) &&& (4294967295)))) (((((xs (i + 7)).toInt64) <<< ((nI (32)).toInt64 &&& 63)) ||| (((xs (i + 8)).toInt64) &&& (4294967295))))).1) := hw.1
  obtain ⟨t2, m2, hw2⟩ := hw.2
  have hw1 := hw1.symm; subst hw1
  have hw2 := hw2.symm; subst hw2
  refine lv_icmp_eq (tgt := 759) hx hb d_L_law_494 (by decide) (fun _ => ?_) (fun c9 => absurd (rfl) c9)
  exact kk _ _ _ _ _ hP hD hS
set_option maxHeartbeats 4000000 in
set_option maxRecDepth 100000 in
theorem lc_9 {p : Program} {l : Launch} {e : Env} {s : State} {m : MethodId} {below : List Frame} {meth : Method} {c : Code} {D : va_G} {h k : Nat → Nat} {cA : ClassId} {cI : Nat → ClassId} {n tb b L : Nat} {xs : Nat → Int32} (hL : L ≤ 4609) (C0 : lw_At p s m meth c b L xs) (hn : 12 ≤ n) (hn2 : n ≤ 24) (hK : va_K D classes [(cA, .byte), (cI 1, .int), (cI 2, .int), (cI 3, .int)] s) (hXs : cX tb (fun q : Nat => s.heap.size ≤ q) s s.heap) {i : Nat} (hi : i + 9 ≤ L) {d t mk : Nat → BitVec 8} {H : Heap} {locs : List Loc} {ls : Array Slot} (hP : va_P D classes (cW h cA n d ++ mW k cI n (mU d t mk)) H) (hD : va_D (fun q : Nat => s.heap.size ≤ q) (cW h cA n d ++ mW k cI n (mU d t mk))) (hS : va_S (fun q : Nat => s.heap.size ≤ q) s.heap H locs) (hl : lv_has ls 4 [(3, .int (nI (i))), (2, .ref (k 0)), (1, .ref (h 0)), (0, .ref (b))]) (kk : ∀ (d t mk : Nat → BitVec 8) (H : Heap) (locs : List Loc), va_P D classes (cW h cA n d ++ mW k cI n (mU d t mk)) H → va_D (fun q : Nat => s.heap.size ≤ q) (cW h cA n d ++ mW k cI n (mU d t mk)) → va_S (fun q : Nat => s.heap.size ≤ q) s.heap H locs → W p l e room_1 s m #[Value.ref b] below meth c H locs 9 25641 (lw_Z below #[Value.ref b] s) (F0 m 759 ls [])) : W p l e room_1 s m #[Value.ref b] below meth c H locs 9 25641 (lw_Z below #[Value.ref b] s) (F0 m 499 ls []) := by
  obtain ⟨hx, hb, hr, hml, hown, hts, hX, hbl, hlocks, hgv⟩ := C0
  have hown : s.vm.findClass R_L = some m.cls := hown
  have hA : ∀ q : Nat, s.heap.size ≤ q → (fun q : Nat => s.heap.size ≤ q) q := fun _ h => h
  have hbA : ¬ (fun q : Nat => s.heap.size ≤ q) b := Nat.not_le.mpr hbl
  refine lv_aload_n hx hb d_L_law_499 rfl (lv_at hl 2 rfl) ?_
  refine lv_aload_n hx hb d_L_law_500 rfl (lv_at hl 3 rfl) ?_
  refine lv_iload_n hx hb d_L_law_501 rfl (lv_at hl 0 rfl) ?_
  refine lv_iconst (v := nI 1) hx hb d_L_law_502 rfl ?_
  refine lv_iaddN hx hb d_L_law_503 ?_
  refine l_sld hx hb hX hbl hbA hS (a := i + 1) (by omega) hL d_L_law_504 ?_
  refine lw_Ci (tb := tb) (As := [.int (xs (i + 1))]) (rest := []) (index := 67) hx hb hml hown hts (c_T_remove l D h cA n tb (va_A (cW h cA n d) H.size) hn hn2 d ((xs (i + 1)))) (cwV 1 hts (gdL_V m_326 m_327 m_328 m_30 m_329) rfl rfl rfl hd_T_remove ⟨Nat.le_of_ble_eq_true rfl, Nat.le_of_ble_eq_true rfl⟩) hK hXs hP hD hA hS rfl hl.1 rfl (Nat.le_of_ble_eq_true rfl) d_L_law_505 ⟨Nat.le_of_ble_eq_true rfl, Nat.le_of_ble_eq_true rfl⟩ (fun r_ v_ H locs hw hP hD hS => ?_)
  have hw1 : r_ = (rmR n d ((xs (i + 1)))).1 := congrArg Prod.fst hw
  have hw2 : v_ = (rmR n d ((xs (i + 1)))).2 := congrArg Prod.snd hw
  have hw1 := hw1.symm; subst hw1
  have hw2 := hw2.symm; subst hw2
  refine lv_aload_n hx hb d_L_law_508 rfl (lv_at hl 1 rfl) ?_
  refine lv_aload_n hx hb d_L_law_509 rfl (lv_at hl 3 rfl) ?_
  refine lv_iload_n hx hb d_L_law_510 rfl (lv_at hl 0 rfl) ?_
  refine lv_iconst (v := nI 1) hx hb d_L_law_511 rfl ?_
  refine lv_iaddN hx hb d_L_law_512 ?_
  refine l_sld hx hb hX hbl hbA hS (a := i + 1) (by omega) hL d_L_law_513 ?_
  refine lw_Mi (tb := tb) (As := [.int (xs (i + 1))]) (rest := [.int ((rmR n d ((xs (i + 1)))).1)]) (index := 70) hx hb hml hown hts (c_M_remove l D k cI n (va_A (mW k cI n (mU d t mk)) H.size) hn hn2 d t mk ((xs (i + 1)))) (cwV 1 hts (gdL_V m_556 m_557 m_558 m_33 m_559) rfl rfl rfl hd_M_remove ⟨Nat.le_of_ble_eq_true rfl, Nat.le_of_ble_eq_true rfl⟩) hK hXs hP hD hA hS rfl hl.1 rfl (Nat.le_of_ble_eq_true rfl) d_L_law_514 ⟨Nat.le_of_ble_eq_true rfl, Nat.le_of_ble_eq_true rfl⟩ (fun r_ v_ H locs hw hP hD hS => ?_)
  have hw1 : r_ = ((rmR n d ((xs (i + 1)))).1) := hw.1
  obtain ⟨t2, m2, hw2⟩ := hw.2
  have hw1 := hw1.symm; subst hw1
  have hw2 := hw2.symm; subst hw2
  refine lv_icmp_eq (tgt := 759) hx hb d_L_law_517 (by decide) (fun _ => ?_) (fun c9 => absurd (rfl) c9)
  exact kk _ _ _ _ _ hP hD hS
set_option maxHeartbeats 4000000 in
set_option maxRecDepth 100000 in
theorem lc_10 {p : Program} {l : Launch} {e : Env} {s : State} {m : MethodId} {below : List Frame} {meth : Method} {c : Code} {D : va_G} {h k : Nat → Nat} {cA : ClassId} {cI : Nat → ClassId} {n tb b L : Nat} {xs : Nat → Int32} (hL : L ≤ 4609) (C0 : lw_At p s m meth c b L xs) (hn : 12 ≤ n) (hn2 : n ≤ 24) (hK : va_K D classes [(cA, .byte), (cI 1, .int), (cI 2, .int), (cI 3, .int)] s) (hXs : cX tb (fun q : Nat => s.heap.size ≤ q) s s.heap) {i : Nat} (hi : i + 9 ≤ L) {d t mk : Nat → BitVec 8} {H : Heap} {locs : List Loc} {ls : Array Slot} (hP : va_P D classes (cW h cA n d ++ mW k cI n (mU d t mk)) H) (hD : va_D (fun q : Nat => s.heap.size ≤ q) (cW h cA n d ++ mW k cI n (mU d t mk))) (hS : va_S (fun q : Nat => s.heap.size ≤ q) s.heap H locs) (hl : lv_has ls 4 [(3, .int (nI (i))), (2, .ref (k 0)), (1, .ref (h 0)), (0, .ref (b))]) (kk : ∀ (d t mk : Nat → BitVec 8) (H : Heap) (locs : List Loc), va_P D classes (cW h cA n d ++ mW k cI n (mU d t mk)) H → va_D (fun q : Nat => s.heap.size ≤ q) (cW h cA n d ++ mW k cI n (mU d t mk)) → va_S (fun q : Nat => s.heap.size ≤ q) s.heap H locs → W p l e room_1 s m #[Value.ref b] below meth c H locs 9 25641 (lw_Z below #[Value.ref b] s) (F0 m 759 ls [])) : W p l e room_1 s m #[Value.ref b] below meth c H locs 9 25641 (lw_Z below #[Value.ref b] s) (F0 m 522 ls []) := by
  obtain ⟨hx, hb, hr, hml, hown, hts, hX, hbl, hlocks, hgv⟩ := C0
  have hown : s.vm.findClass R_L = some m.cls := hown
  have hA : ∀ q : Nat, s.heap.size ≤ q → (fun q : Nat => s.heap.size ≤ q) q := fun _ h => h
  have hbA : ¬ (fun q : Nat => s.heap.size ≤ q) b := Nat.not_le.mpr hbl
  refine lv_aload_n hx hb d_L_law_522 rfl (lv_at hl 2 rfl) ?_
  refine lv_aload_n hx hb d_L_law_523 rfl (lv_at hl 3 rfl) ?_
  refine lv_iload_n hx hb d_L_law_524 rfl (lv_at hl 0 rfl) ?_
  refine lv_iconst (v := nI 1) hx hb d_L_law_525 rfl ?_
  refine lv_iaddN hx hb d_L_law_526 ?_
  refine l_sld hx hb hX hbl hbA hS (a := i + 1) (by omega) hL d_L_law_527 ?_
  refine lv_aload_n hx hb d_L_law_528 rfl (lv_at hl 3 rfl) ?_
  refine lv_iload_n hx hb d_L_law_529 rfl (lv_at hl 0 rfl) ?_
  refine lv_iconst (v := nI 2) hx hb d_L_law_530 rfl ?_
  refine lv_iaddN hx hb d_L_law_531 ?_
  refine l_sld hx hb hX hbl hbA hS (a := i + 2) (by omega) hL d_L_law_532 ?_
  refine lv_aload_n hx hb d_L_law_533 rfl (lv_at hl 3 rfl) ?_
  refine lv_iload_n hx hb d_L_law_534 rfl (lv_at hl 0 rfl) ?_
  refine lv_iconst (v := nI 3) hx hb d_L_law_535 rfl ?_
  refine lv_iaddN hx hb d_L_law_536 ?_
  refine l_sld hx hb hX hbl hbA hS (a := i + 3) (by omega) hL d_L_law_537 ?_
  refine lv_i2c hx hb d_L_law_538 rfl ?_
  refine lw_Ci (tb := tb) (As := [.int (xs (i + 1)), .int (xs (i + 2)), .int (((xs (i + 3)).toUInt32 % 65536).toInt32)]) (rest := []) (index := 71) hx hb hml hown hts (c_T_rename l D h cA n tb (va_A (cW h cA n d) H.size) hn hn2 d ((xs (i + 1))) ((xs (i + 2))) ((((xs (i + 3)).toUInt32 % 65536).toInt32))) (cwV 3 hts (gdL_V m_337 m_338 m_339 m_30 m_340) rfl rfl rfl hd_T_rename ⟨Nat.le_of_ble_eq_true rfl, Nat.le_of_ble_eq_true rfl⟩) hK hXs hP hD hA hS rfl hl.1 rfl (Nat.le_of_ble_eq_true rfl) d_L_law_539 ⟨Nat.le_of_ble_eq_true rfl, Nat.le_of_ble_eq_true rfl⟩ (fun r_ v_ H locs hw hP hD hS => ?_)
  have hw1 : r_ = (rnR n d ((xs (i + 1))) ((xs (i + 2))) ((((xs (i + 3)).toUInt32 % 65536).toInt32))).1 := congrArg Prod.fst hw
  have hw2 : v_ = (rnR n d ((xs (i + 1))) ((xs (i + 2))) ((((xs (i + 3)).toUInt32 % 65536).toInt32))).2 := congrArg Prod.snd hw
  have hw1 := hw1.symm; subst hw1
  have hw2 := hw2.symm; subst hw2
  refine lv_aload_n hx hb d_L_law_542 rfl (lv_at hl 1 rfl) ?_
  refine lv_aload_n hx hb d_L_law_543 rfl (lv_at hl 3 rfl) ?_
  refine lv_iload_n hx hb d_L_law_544 rfl (lv_at hl 0 rfl) ?_
  refine lv_iconst (v := nI 1) hx hb d_L_law_545 rfl ?_
  refine lv_iaddN hx hb d_L_law_546 ?_
  refine l_sld hx hb hX hbl hbA hS (a := i + 1) (by omega) hL d_L_law_547 ?_
  refine lv_aload_n hx hb d_L_law_548 rfl (lv_at hl 3 rfl) ?_
  refine lv_iload_n hx hb d_L_law_549 rfl (lv_at hl 0 rfl) ?_
  refine lv_iconst (v := nI 2) hx hb d_L_law_550 rfl ?_
  refine lv_iaddN hx hb d_L_law_551 ?_
  refine l_sld hx hb hX hbl hbA hS (a := i + 2) (by omega) hL d_L_law_552 ?_
  refine lv_aload_n hx hb d_L_law_553 rfl (lv_at hl 3 rfl) ?_
  refine lv_iload_n hx hb d_L_law_554 rfl (lv_at hl 0 rfl) ?_
  refine lv_iconst (v := nI 3) hx hb d_L_law_555 rfl ?_
  refine lv_iaddN hx hb d_L_law_556 ?_
  refine l_sld hx hb hX hbl hbA hS (a := i + 3) (by omega) hL d_L_law_557 ?_
  refine lv_i2c hx hb d_L_law_558 rfl ?_
  refine lw_Mi (tb := tb) (As := [.int (xs (i + 1)), .int (xs (i + 2)), .int (((xs (i + 3)).toUInt32 % 65536).toInt32)]) (rest := [.int ((rnR n d ((xs (i + 1))) ((xs (i + 2))) ((((xs (i + 3)).toUInt32 % 65536).toInt32))).1)]) (index := 75) hx hb hml hown hts (c_M_rename l D k cI n (va_A (mW k cI n (mU d t mk)) H.size) hn hn2 d t mk ((xs (i + 1))) ((xs (i + 2))) ((((xs (i + 3)).toUInt32 % 65536).toInt32))) (cwV 3 hts (gdL_V m_564 m_565 m_566 m_33 m_567) rfl rfl rfl hd_M_rename ⟨Nat.le_of_ble_eq_true rfl, Nat.le_of_ble_eq_true rfl⟩) hK hXs hP hD hA hS rfl hl.1 rfl (Nat.le_of_ble_eq_true rfl) d_L_law_559 ⟨Nat.le_of_ble_eq_true rfl, Nat.le_of_ble_eq_true rfl⟩ (fun r_ v_ H locs hw hP hD hS => ?_)
  have hw1 : r_ = ((rnR n d ((xs (i + 1))) ((xs (i + 2))) ((((xs (i + 3)).toUInt32 % 65536).toInt32))).1) := hw.1
  obtain ⟨t2, m2, hw2⟩ := hw.2
  have hw1 := hw1.symm; subst hw1
  have hw2 := hw2.symm; subst hw2
  refine lv_icmp_eq (tgt := 759) hx hb d_L_law_562 (by decide) (fun _ => ?_) (fun c9 => absurd (rfl) c9)
  exact kk _ _ _ _ _ hP hD hS
set_option maxHeartbeats 4000000 in
set_option maxRecDepth 100000 in
theorem lc_11 {p : Program} {l : Launch} {e : Env} {s : State} {m : MethodId} {below : List Frame} {meth : Method} {c : Code} {D : va_G} {h k : Nat → Nat} {cA : ClassId} {cI : Nat → ClassId} {n tb b L : Nat} {xs : Nat → Int32} (hL : L ≤ 4609) (C0 : lw_At p s m meth c b L xs) (hn : 12 ≤ n) (hn2 : n ≤ 24) (hK : va_K D classes [(cA, .byte), (cI 1, .int), (cI 2, .int), (cI 3, .int)] s) (hXs : cX tb (fun q : Nat => s.heap.size ≤ q) s s.heap) {i : Nat} (hi : i + 9 ≤ L) {d t mk : Nat → BitVec 8} {H : Heap} {locs : List Loc} {ls : Array Slot} (hP : va_P D classes (cW h cA n d ++ mW k cI n (mU d t mk)) H) (hD : va_D (fun q : Nat => s.heap.size ≤ q) (cW h cA n d ++ mW k cI n (mU d t mk))) (hS : va_S (fun q : Nat => s.heap.size ≤ q) s.heap H locs) (hl : lv_has ls 4 [(3, .int (nI (i))), (2, .ref (k 0)), (1, .ref (h 0)), (0, .ref (b))]) (kk : ∀ (d t mk : Nat → BitVec 8) (H : Heap) (locs : List Loc), va_P D classes (cW h cA n d ++ mW k cI n (mU d t mk)) H → va_D (fun q : Nat => s.heap.size ≤ q) (cW h cA n d ++ mW k cI n (mU d t mk)) → va_S (fun q : Nat => s.heap.size ≤ q) s.heap H locs → W p l e room_1 s m #[Value.ref b] below meth c H locs 9 25641 (lw_Z below #[Value.ref b] s) (F0 m 759 ls [])) : W p l e room_1 s m #[Value.ref b] below meth c H locs 9 25641 (lw_Z below #[Value.ref b] s) (F0 m 567 ls []) := by
  obtain ⟨hx, hb, hr, hml, hown, hts, hX, hbl, hlocks, hgv⟩ := C0
  have hown : s.vm.findClass R_L = some m.cls := hown
  have hA : ∀ q : Nat, s.heap.size ≤ q → (fun q : Nat => s.heap.size ≤ q) q := fun _ h => h
  have hbA : ¬ (fun q : Nat => s.heap.size ≤ q) b := Nat.not_le.mpr hbl
  refine lv_aload_n hx hb d_L_law_567 rfl (lv_at hl 2 rfl) ?_
  refine lv_aload_n hx hb d_L_law_568 rfl (lv_at hl 3 rfl) ?_
  refine lv_iload_n hx hb d_L_law_569 rfl (lv_at hl 0 rfl) ?_
  refine lv_iconst (v := nI 1) hx hb d_L_law_570 rfl ?_
  refine lv_iaddN hx hb d_L_law_571 ?_
  refine l_sld hx hb hX hbl hbA hS (a := i + 1) (by omega) hL d_L_law_572 ?_
  refine lv_aload_n hx hb d_L_law_573 rfl (lv_at hl 3 rfl) ?_
  refine lv_iload_n hx hb d_L_law_574 rfl (lv_at hl 0 rfl) ?_
  refine lv_iconst (v := nI 2) hx hb d_L_law_575 rfl ?_
  refine lv_iaddN hx hb d_L_law_576 ?_
  refine l_sld hx hb hX hbl hbA hS (a := i + 2) (by omega) hL d_L_law_577 ?_
  refine lv_aload_n hx hb d_L_law_578 rfl (lv_at hl 3 rfl) ?_
  refine lv_iload_n hx hb d_L_law_579 rfl (lv_at hl 0 rfl) ?_
  refine lv_iconst (v := nI 3) hx hb d_L_law_580 rfl ?_
  refine lv_iaddN hx hb d_L_law_581 ?_
  refine l_sld hx hb hX hbl hbA hS (a := i + 3) (by omega) hL d_L_law_582 ?_
  refine lw_Ci (tb := tb) (As := [.int (xs (i + 1)), .int (xs (i + 2)), .int (xs (i + 3))]) (rest := []) (index := 76) hx hb hml hown hts (c_T_move l D h cA n tb (va_A (cW h cA n d) H.size) hn hn2 d ((xs (i + 1))) ((xs (i + 2))) ((xs (i + 3)))) (cwV 3 hts (gdL_V m_348 m_349 m_350 m_30 m_351) rfl rfl rfl hd_T_move ⟨Nat.le_of_ble_eq_true rfl, Nat.le_of_ble_eq_true rfl⟩) hK hXs hP hD hA hS rfl hl.1 rfl (Nat.le_of_ble_eq_true rfl) d_L_law_583 ⟨Nat.le_of_ble_eq_true rfl, Nat.le_of_ble_eq_true rfl⟩ (fun r_ v_ H locs hw hP hD hS => ?_)
  have hw1 : r_ = (moR n d ((xs (i + 1))) ((xs (i + 2))) ((xs (i + 3)))).1 := congrArg Prod.fst hw
  have hw2 : v_ = (moR n d ((xs (i + 1))) ((xs (i + 2))) ((xs (i + 3)))).2 := congrArg Prod.snd hw
  have hw1 := hw1.symm; subst hw1
  have hw2 := hw2.symm; subst hw2
  refine lv_aload_n hx hb d_L_law_586 rfl (lv_at hl 1 rfl) ?_
  refine lv_aload_n hx hb d_L_law_587 rfl (lv_at hl 3 rfl) ?_
  refine lv_iload_n hx hb d_L_law_588 rfl (lv_at hl 0 rfl) ?_
  refine lv_iconst (v := nI 1) hx hb d_L_law_589 rfl ?_
  refine lv_iaddN hx hb d_L_law_590 ?_
  refine l_sld hx hb hX hbl hbA hS (a := i + 1) (by omega) hL d_L_law_591 ?_
  refine lv_aload_n hx hb d_L_law_592 rfl (lv_at hl 3 rfl) ?_
  refine lv_iload_n hx hb d_L_law_593 rfl (lv_at hl 0 rfl) ?_
  refine lv_iconst (v := nI 2) hx hb d_L_law_594 rfl ?_
  refine lv_iaddN hx hb d_L_law_595 ?_
  refine l_sld hx hb hX hbl hbA hS (a := i + 2) (by omega) hL d_L_law_596 ?_
  refine lv_aload_n hx hb d_L_law_597 rfl (lv_at hl 3 rfl) ?_
  refine lv_iload_n hx hb d_L_law_598 rfl (lv_at hl 0 rfl) ?_
  refine lv_iconst (v := nI 3) hx hb d_L_law_599 rfl ?_
  refine lv_iaddN hx hb d_L_law_600 ?_
  refine l_sld hx hb hX hbl hbA hS (a := i + 3) (by omega) hL d_L_law_601 ?_
  refine lw_Mi (tb := tb) (As := [.int (xs (i + 1)), .int (xs (i + 2)), .int (xs (i + 3))]) (rest := [.int ((moR n d ((xs (i + 1))) ((xs (i + 2))) ((xs (i + 3)))).1)]) (index := 79) hx hb hml hown hts (c_M_move l D k cI n (va_A (mW k cI n (mU d t mk)) H.size) hn hn2 d t mk ((xs (i + 1))) ((xs (i + 2))) ((xs (i + 3)))) (cwV 3 hts (gdL_V m_568 m_569 m_570 m_33 m_571) rfl rfl rfl hd_M_move ⟨Nat.le_of_ble_eq_true rfl, Nat.le_of_ble_eq_true rfl⟩) hK hXs hP hD hA hS rfl hl.1 rfl (Nat.le_of_ble_eq_true rfl) d_L_law_602 ⟨Nat.le_of_ble_eq_true rfl, Nat.le_of_ble_eq_true rfl⟩ (fun r_ v_ H locs hw hP hD hS => ?_)
  have hw1 : r_ = ((moR n d ((xs (i + 1))) ((xs (i + 2))) ((xs (i + 3)))).1) := hw.1
  obtain ⟨t2, m2, hw2⟩ := hw.2
  have hw1 := hw1.symm; subst hw1
  have hw2 := hw2.symm; subst hw2
  refine lv_icmp_eq (tgt := 759) hx hb d_L_law_605 (by decide) (fun _ => ?_) (fun c9 => absurd (rfl) c9)
  exact kk _ _ _ _ _ hP hD hS
set_option maxHeartbeats 4000000 in
set_option maxRecDepth 100000 in
theorem lc_12 {p : Program} {l : Launch} {e : Env} {s : State} {m : MethodId} {below : List Frame} {meth : Method} {c : Code} {D : va_G} {h k : Nat → Nat} {cA : ClassId} {cI : Nat → ClassId} {n tb b L : Nat} {xs : Nat → Int32} (hL : L ≤ 4609) (C0 : lw_At p s m meth c b L xs) (hn : 12 ≤ n) (hn2 : n ≤ 24) (hK : va_K D classes [(cA, .byte), (cI 1, .int), (cI 2, .int), (cI 3, .int)] s) (hXs : cX tb (fun q : Nat => s.heap.size ≤ q) s s.heap) {i : Nat} (hi : i + 9 ≤ L) {d t mk : Nat → BitVec 8} {H : Heap} {locs : List Loc} {ls : Array Slot} (hP : va_P D classes (cW h cA n d ++ mW k cI n (mU d t mk)) H) (hD : va_D (fun q : Nat => s.heap.size ≤ q) (cW h cA n d ++ mW k cI n (mU d t mk))) (hS : va_S (fun q : Nat => s.heap.size ≤ q) s.heap H locs) (hl : lv_has ls 4 [(3, .int (nI (i))), (2, .ref (k 0)), (1, .ref (h 0)), (0, .ref (b))]) (kk : ∀ (d t mk : Nat → BitVec 8) (H : Heap) (locs : List Loc), va_P D classes (cW h cA n d ++ mW k cI n (mU d t mk)) H → va_D (fun q : Nat => s.heap.size ≤ q) (cW h cA n d ++ mW k cI n (mU d t mk)) → va_S (fun q : Nat => s.heap.size ≤ q) s.heap H locs → W p l e room_1 s m #[Value.ref b] below meth c H locs 9 25641 (lw_Z below #[Value.ref b] s) (F0 m 759 ls [])) : W p l e room_1 s m #[Value.ref b] below meth c H locs 9 25641 (lw_Z below #[Value.ref b] s) (F0 m 610 ls []) := by
  obtain ⟨hx, hb, hr, hml, hown, hts, hX, hbl, hlocks, hgv⟩ := C0
  have hown : s.vm.findClass R_L = some m.cls := hown
  have hA : ∀ q : Nat, s.heap.size ≤ q → (fun q : Nat => s.heap.size ≤ q) q := fun _ h => h
  have hbA : ¬ (fun q : Nat => s.heap.size ≤ q) b := Nat.not_le.mpr hbl
  refine lv_aload_n hx hb d_L_law_610 rfl (lv_at hl 2 rfl) ?_
  refine lw_Ci (tb := tb) (As := []) (rest := []) (index := 80) hx hb hml hown hts (c_T_repair l D h cA n tb (va_A (cW h cA n d) H.size) hn hn2 d ) (cwV 0 hts (gdL_V m_352 m_353 m_354 m_30 m_355) rfl rfl rfl hd_T_repair ⟨Nat.le_of_ble_eq_true rfl, Nat.le_of_ble_eq_true rfl⟩) hK hXs hP hD hA hS rfl hl.1 rfl (Nat.le_of_ble_eq_true rfl) d_L_law_611 ⟨Nat.le_of_ble_eq_true rfl, Nat.le_of_ble_eq_true rfl⟩ (fun r_ v_ H locs hw hP hD hS => ?_)
  have hw1 : r_ = (reR n d ).1 := congrArg Prod.fst hw
  have hw2 : v_ = (reR n d ).2 := congrArg Prod.snd hw
  have hw1 := hw1.symm; subst hw1
  have hw2 := hw2.symm; subst hw2
  refine lv_aload_n hx hb d_L_law_614 rfl (lv_at hl 1 rfl) ?_
  refine lw_Mi (tb := tb) (As := []) (rest := [.int ((reR n d ).1)]) (index := 83) hx hb hml hown hts (c_M_repair l D k cI n (va_A (mW k cI n (mU d t mk)) H.size) hn hn2 d t mk ) (cwV 0 hts (gdL_V m_572 m_573 m_574 m_33 m_575) rfl rfl rfl hd_M_repair ⟨Nat.le_of_ble_eq_true rfl, Nat.le_of_ble_eq_true rfl⟩) hK hXs hP hD hA hS rfl hl.1 rfl (Nat.le_of_ble_eq_true rfl) d_L_law_615 ⟨Nat.le_of_ble_eq_true rfl, Nat.le_of_ble_eq_true rfl⟩ (fun r_ v_ H locs hw hP hD hS => ?_)
  have hw1 : r_ = ((reR n d ).1) := hw.1
  obtain ⟨t2, m2, hw2⟩ := hw.2
  have hw1 := hw1.symm; subst hw1
  have hw2 := hw2.symm; subst hw2
  refine lv_icmp_eq (tgt := 759) hx hb d_L_law_618 (by decide) (fun _ => ?_) (fun c9 => absurd (rfl) c9)
  exact kk _ _ _ _ _ hP hD hS
set_option maxHeartbeats 4000000 in
set_option maxRecDepth 100000 in
theorem lc_13 {p : Program} {l : Launch} {e : Env} {s : State} {m : MethodId} {below : List Frame} {meth : Method} {c : Code} {D : va_G} {h k : Nat → Nat} {cA : ClassId} {cI : Nat → ClassId} {n tb b L : Nat} {xs : Nat → Int32} (hL : L ≤ 4609) (C0 : lw_At p s m meth c b L xs) (hn : 12 ≤ n) (hn2 : n ≤ 24) (hK : va_K D classes [(cA, .byte), (cI 1, .int), (cI 2, .int), (cI 3, .int)] s) (hXs : cX tb (fun q : Nat => s.heap.size ≤ q) s s.heap) {i : Nat} (hi : i + 9 ≤ L) {d t mk : Nat → BitVec 8} {H : Heap} {locs : List Loc} {ls : Array Slot} (hP : va_P D classes (cW h cA n d ++ mW k cI n (mU d t mk)) H) (hD : va_D (fun q : Nat => s.heap.size ≤ q) (cW h cA n d ++ mW k cI n (mU d t mk))) (hS : va_S (fun q : Nat => s.heap.size ≤ q) s.heap H locs) (hl : lv_has ls 4 [(3, .int (nI (i))), (2, .ref (k 0)), (1, .ref (h 0)), (0, .ref (b))]) (kk : ∀ (d t mk : Nat → BitVec 8) (H : Heap) (locs : List Loc), va_P D classes (cW h cA n d ++ mW k cI n (mU d t mk)) H → va_D (fun q : Nat => s.heap.size ≤ q) (cW h cA n d ++ mW k cI n (mU d t mk)) → va_S (fun q : Nat => s.heap.size ≤ q) s.heap H locs → W p l e room_1 s m #[Value.ref b] below meth c H locs 9 25641 (lw_Z below #[Value.ref b] s) (F0 m 759 ls [])) : W p l e room_1 s m #[Value.ref b] below meth c H locs 9 25641 (lw_Z below #[Value.ref b] s) (F0 m 623 ls []) := by
  obtain ⟨hx, hb, hr, hml, hown, hts, hX, hbl, hlocks, hgv⟩ := C0
  have hown : s.vm.findClass R_L = some m.cls := hown
  have hA : ∀ q : Nat, s.heap.size ≤ q → (fun q : Nat => s.heap.size ≤ q) q := fun _ h => h
  have hbA : ¬ (fun q : Nat => s.heap.size ≤ q) b := Nat.not_le.mpr hbl
  refine lv_aload_n hx hb d_L_law_623 rfl (lv_at hl 2 rfl) ?_
  refine lw_Ci (tb := tb) (As := []) (rest := []) (index := 84) hx hb hml hown hts (c_T_count l D h cA n tb (va_A (cW h cA n d) H.size) hn hn2 d ) (cwV 0 hts (gdL_V m_361 m_362 m_363 m_30 m_364) rfl rfl rfl hd_T_count ⟨Nat.le_of_ble_eq_true rfl, Nat.le_of_ble_eq_true rfl⟩) hK hXs hP hD hA hS rfl hl.1 rfl (Nat.le_of_ble_eq_true rfl) d_L_law_624 ⟨Nat.le_of_ble_eq_true rfl, Nat.le_of_ble_eq_true rfl⟩ (fun r_ v_ H locs hw hP hD hS => ?_)
  have hw1 : r_ = (coR n d ) := hw.1
  have hw2 : v_ = d := hw.2
  have hw1 := hw1.symm; subst hw1
  have hw2 := hw2.symm; subst hw2
  refine lv_aload_n hx hb d_L_law_627 rfl (lv_at hl 1 rfl) ?_
  refine lw_Mi (tb := tb) (As := []) (rest := [.int (coR n d )]) (index := 87) hx hb hml hown hts (c_M_count l D k cI n (va_A (mW k cI n (mU d t mk)) H.size) hn hn2 d t mk ) (cwV 0 hts (gdL_V m_577 m_578 m_579 m_33 m_580) rfl rfl rfl hd_M_count ⟨Nat.le_of_ble_eq_true rfl, Nat.le_of_ble_eq_true rfl⟩) hK hXs hP hD hA hS rfl hl.1 rfl (Nat.le_of_ble_eq_true rfl) d_L_law_628 ⟨Nat.le_of_ble_eq_true rfl, Nat.le_of_ble_eq_true rfl⟩ (fun r_ v_ H locs hw hP hD hS => ?_)
  have hw1 : r_ = (coR n d ) := hw.1
  obtain ⟨t2, m2, hw2⟩ := hw.2
  have hw1 := hw1.symm; subst hw1
  have hw2 := hw2.symm; subst hw2
  refine lv_icmp_eq (tgt := 759) hx hb d_L_law_631 (by decide) (fun _ => ?_) (fun c9 => absurd (rfl) c9)
  exact kk _ _ _ _ _ hP hD hS
set_option maxHeartbeats 4000000 in
set_option maxRecDepth 100000 in
theorem lc_14 {p : Program} {l : Launch} {e : Env} {s : State} {m : MethodId} {below : List Frame} {meth : Method} {c : Code} {D : va_G} {h k : Nat → Nat} {cA : ClassId} {cI : Nat → ClassId} {n tb b L : Nat} {xs : Nat → Int32} (hL : L ≤ 4609) (C0 : lw_At p s m meth c b L xs) (hn : 12 ≤ n) (hn2 : n ≤ 24) (hK : va_K D classes [(cA, .byte), (cI 1, .int), (cI 2, .int), (cI 3, .int)] s) (hXs : cX tb (fun q : Nat => s.heap.size ≤ q) s s.heap) {i : Nat} (hi : i + 9 ≤ L) {d t mk : Nat → BitVec 8} {H : Heap} {locs : List Loc} {ls : Array Slot} (hP : va_P D classes (cW h cA n d ++ mW k cI n (mU d t mk)) H) (hD : va_D (fun q : Nat => s.heap.size ≤ q) (cW h cA n d ++ mW k cI n (mU d t mk))) (hS : va_S (fun q : Nat => s.heap.size ≤ q) s.heap H locs) (hl : lv_has ls 4 [(3, .int (nI (i))), (2, .ref (k 0)), (1, .ref (h 0)), (0, .ref (b))]) (kk : ∀ (d t mk : Nat → BitVec 8) (H : Heap) (locs : List Loc), va_P D classes (cW h cA n d ++ mW k cI n (mU d t mk)) H → va_D (fun q : Nat => s.heap.size ≤ q) (cW h cA n d ++ mW k cI n (mU d t mk)) → va_S (fun q : Nat => s.heap.size ≤ q) s.heap H locs → W p l e room_1 s m #[Value.ref b] below meth c H locs 9 25641 (lw_Z below #[Value.ref b] s) (F0 m 759 ls [])) : W p l e room_1 s m #[Value.ref b] below meth c H locs 9 25641 (lw_Z below #[Value.ref b] s) (F0 m 636 ls []) := by
  obtain ⟨hx, hb, hr, hml, hown, hts, hX, hbl, hlocks, hgv⟩ := C0
  have hown : s.vm.findClass R_L = some m.cls := hown
  have hA : ∀ q : Nat, s.heap.size ≤ q → (fun q : Nat => s.heap.size ≤ q) q := fun _ h => h
  have hbA : ¬ (fun q : Nat => s.heap.size ≤ q) b := Nat.not_le.mpr hbl
  refine lv_aload_n hx hb d_L_law_636 rfl (lv_at hl 2 rfl) ?_
  refine lv_aload_n hx hb d_L_law_637 rfl (lv_at hl 3 rfl) ?_
  refine lv_iload_n hx hb d_L_law_638 rfl (lv_at hl 0 rfl) ?_
  refine lv_iconst (v := nI 1) hx hb d_L_law_639 rfl ?_
  refine lv_iaddN hx hb d_L_law_640 ?_
  refine l_sld hx hb hX hbl hbA hS (a := i + 1) (by omega) hL d_L_law_641 ?_
  refine lv_aload_n hx hb d_L_law_642 rfl (lv_at hl 3 rfl) ?_
  refine lv_iload_n hx hb d_L_law_643 rfl (lv_at hl 0 rfl) ?_
  refine lv_iconst (v := nI 2) hx hb d_L_law_644 rfl ?_
  refine lv_iaddN hx hb d_L_law_645 ?_
  refine l_sld hx hb hX hbl hbA hS (a := i + 2) (by omega) hL d_L_law_646 ?_
  refine lw_Cl (tb := tb) (As := [.int (xs (i + 1)), .int (xs (i + 2))]) (rest := []) (index := 88) hx hb hml hown hts (c_T_field l D h cA n tb (va_A (cW h cA n d) H.size) hn hn2 d ((xs (i + 1))) ((xs (i + 2)))) (cwV 2 hts (gdL_V m_369 m_370 m_371 m_30 m_372) rfl rfl rfl hd_T_field ⟨Nat.le_of_ble_eq_true rfl, Nat.le_of_ble_eq_true rfl⟩) hK hXs hP hD hA hS rfl hl.1 rfl (Nat.le_of_ble_eq_true rfl) d_L_law_647 ⟨Nat.le_of_ble_eq_true rfl, Nat.le_of_ble_eq_true rfl⟩ (fun r_ v_ H locs hw hP hD hS => ?_)
  have hw1 : r_ = (fiR n d ((xs (i + 1))) ((xs (i + 2)))) := hw.1
  have hw2 : v_ = d := hw.2
  have hw1 := hw1.symm; subst hw1
  have hw2 := hw2.symm; subst hw2
  refine lv_aload_n hx hb d_L_law_650 rfl (lv_at hl 1 rfl) ?_
  refine lv_aload_n hx hb d_L_law_651 rfl (lv_at hl 3 rfl) ?_
  refine lv_iload_n hx hb d_L_law_652 rfl (lv_at hl 0 rfl) ?_
  refine lv_iconst (v := nI 1) hx hb d_L_law_653 rfl ?_
  refine lv_iaddN hx hb d_L_law_654 ?_
  refine l_sld hx hb hX hbl hbA hS (a := i + 1) (by omega) hL d_L_law_655 ?_
  refine lv_aload_n hx hb d_L_law_656 rfl (lv_at hl 3 rfl) ?_
  refine lv_iload_n hx hb d_L_law_657 rfl (lv_at hl 0 rfl) ?_
  refine lv_iconst (v := nI 2) hx hb d_L_law_658 rfl ?_
  refine lv_iaddN hx hb d_L_law_659 ?_
  refine l_sld hx hb hX hbl hbA hS (a := i + 2) (by omega) hL d_L_law_660 ?_
  refine lw_Ml (tb := tb) (As := [.int (xs (i + 1)), .int (xs (i + 2))]) (rest := [.long (fiR n d ((xs (i + 1))) ((xs (i + 2))))]) (index := 92) hx hb hml hown hts (c_M_field l D k cI n (va_A (mW k cI n (mU d t mk)) H.size) hn hn2 d t mk ((xs (i + 1))) ((xs (i + 2)))) (cwV 2 hts (gdL_V m_581 m_582 m_583 m_33 m_584) rfl rfl rfl hd_M_field ⟨Nat.le_of_ble_eq_true rfl, Nat.le_of_ble_eq_true rfl⟩) hK hXs hP hD hA hS rfl hl.1 rfl (Nat.le_of_ble_eq_true rfl) d_L_law_661 ⟨Nat.le_of_ble_eq_true rfl, Nat.le_of_ble_eq_true rfl⟩ (fun r_ v_ H locs hw hP hD hS => ?_)
  have hw1 : r_ = (fiR n d ((xs (i + 1))) ((xs (i + 2)))) := hw.1
  obtain ⟨t2, m2, hw2⟩ := hw.2
  have hw1 := hw1.symm; subst hw1
  have hw2 := hw2.symm; subst hw2
  refine W.lcmp hx hb d_L_law_664 ?_
  refine lv_if_eq (tgt := 759) hx hb d_L_law_665 (by decide) (fun _ => ?_) (fun c9 => absurd ((lg_cmp_eq _ _).mpr rfl) c9)
  exact kk _ _ _ _ _ hP hD hS
set_option maxHeartbeats 4000000 in
set_option maxRecDepth 100000 in
theorem lc_15 {p : Program} {l : Launch} {e : Env} {s : State} {m : MethodId} {below : List Frame} {meth : Method} {c : Code} {D : va_G} {h k : Nat → Nat} {cA : ClassId} {cI : Nat → ClassId} {n tb b L : Nat} {xs : Nat → Int32} (hL : L ≤ 4609) (C0 : lw_At p s m meth c b L xs) (hn : 12 ≤ n) (hn2 : n ≤ 24) (hK : va_K D classes [(cA, .byte), (cI 1, .int), (cI 2, .int), (cI 3, .int)] s) (hXs : cX tb (fun q : Nat => s.heap.size ≤ q) s s.heap) {i : Nat} (hi : i + 9 ≤ L) {d t mk : Nat → BitVec 8} {H : Heap} {locs : List Loc} {ls : Array Slot} (hP : va_P D classes (cW h cA n d ++ mW k cI n (mU d t mk)) H) (hD : va_D (fun q : Nat => s.heap.size ≤ q) (cW h cA n d ++ mW k cI n (mU d t mk))) (hS : va_S (fun q : Nat => s.heap.size ≤ q) s.heap H locs) (hl : lv_has ls 4 [(3, .int (nI (i))), (2, .ref (k 0)), (1, .ref (h 0)), (0, .ref (b))]) (kk : ∀ (d t mk : Nat → BitVec 8) (H : Heap) (locs : List Loc), va_P D classes (cW h cA n d ++ mW k cI n (mU d t mk)) H → va_D (fun q : Nat => s.heap.size ≤ q) (cW h cA n d ++ mW k cI n (mU d t mk)) → va_S (fun q : Nat => s.heap.size ≤ q) s.heap H locs → W p l e room_1 s m #[Value.ref b] below meth c H locs 9 25641 (lw_Z below #[Value.ref b] s) (F0 m 759 ls [])) : W p l e room_1 s m #[Value.ref b] below meth c H locs 9 25641 (lw_Z below #[Value.ref b] s) (F0 m 670 ls []) := by
  obtain ⟨hx, hb, hr, hml, hown, hts, hX, hbl, hlocks, hgv⟩ := C0
  have hown : s.vm.findClass R_L = some m.cls := hown
  have hA : ∀ q : Nat, s.heap.size ≤ q → (fun q : Nat => s.heap.size ≤ q) q := fun _ h => h
  have hbA : ¬ (fun q : Nat => s.heap.size ≤ q) b := Nat.not_le.mpr hbl
  refine lv_aload_n hx hb d_L_law_670 rfl (lv_at hl 2 rfl) ?_
  refine lv_aload_n hx hb d_L_law_671 rfl (lv_at hl 3 rfl) ?_
  refine lv_iload_n hx hb d_L_law_672 rfl (lv_at hl 0 rfl) ?_
  refine lv_iconst (v := nI 1) hx hb d_L_law_673 rfl ?_
  refine lv_iaddN hx hb d_L_law_674 ?_
  refine l_sld hx hb hX hbl hbA hS (a := i + 1) (by omega) hL d_L_law_675 ?_
  refine lv_aload_n hx hb d_L_law_676 rfl (lv_at hl 3 rfl) ?_
  refine lv_iload_n hx hb d_L_law_677 rfl (lv_at hl 0 rfl) ?_
  refine lv_iconst (v := nI 2) hx hb d_L_law_678 rfl ?_
  refine lv_iaddN hx hb d_L_law_679 ?_
  refine l_sld hx hb hX hbl hbA hS (a := i + 2) (by omega) hL d_L_law_680 ?_
  refine lw_Ci (tb := tb) (As := [.int (xs (i + 1)), .int (xs (i + 2))]) (rest := []) (index := 93) hx hb hml hown hts (c_T_letter l D h cA n tb (va_A (cW h cA n d) H.size) hn hn2 d ((xs (i + 1))) ((xs (i + 2)))) (cwV 2 hts (gdL_V m_374 m_375 m_376 m_30 m_377) rfl rfl rfl hd_T_letter ⟨Nat.le_of_ble_eq_true rfl, Nat.le_of_ble_eq_true rfl⟩) hK hXs hP hD hA hS rfl hl.1 rfl (Nat.le_of_ble_eq_true rfl) d_L_law_681 ⟨Nat.le_of_ble_eq_true rfl, Nat.le_of_ble_eq_true rfl⟩ (fun r_ v_ H locs hw hP hD hS => ?_)
  have hw1 : r_ = (leR n d ((xs (i + 1))) ((xs (i + 2)))) := hw.1
  have hw2 : v_ = d := hw.2
  have hw1 := hw1.symm; subst hw1
  have hw2 := hw2.symm; subst hw2
  refine lv_aload_n hx hb d_L_law_684 rfl (lv_at hl 1 rfl) ?_
  refine lv_aload_n hx hb d_L_law_685 rfl (lv_at hl 3 rfl) ?_
  refine lv_iload_n hx hb d_L_law_686 rfl (lv_at hl 0 rfl) ?_
  refine lv_iconst (v := nI 1) hx hb d_L_law_687 rfl ?_
  refine lv_iaddN hx hb d_L_law_688 ?_
  refine l_sld hx hb hX hbl hbA hS (a := i + 1) (by omega) hL d_L_law_689 ?_
  refine lv_aload_n hx hb d_L_law_690 rfl (lv_at hl 3 rfl) ?_
  refine lv_iload_n hx hb d_L_law_691 rfl (lv_at hl 0 rfl) ?_
  refine lv_iconst (v := nI 2) hx hb d_L_law_692 rfl ?_
  refine lv_iaddN hx hb d_L_law_693 ?_
  refine l_sld hx hb hX hbl hbA hS (a := i + 2) (by omega) hL d_L_law_694 ?_
  refine lw_Mi (tb := tb) (As := [.int (xs (i + 1)), .int (xs (i + 2))]) (rest := [.int (leR n d ((xs (i + 1))) ((xs (i + 2))))]) (index := 97) hx hb hml hown hts (c_M_letter l D k cI n (va_A (mW k cI n (mU d t mk)) H.size) hn hn2 d t mk ((xs (i + 1))) ((xs (i + 2)))) (cwV 2 hts (gdL_V m_585 m_586 m_587 m_33 m_588) rfl rfl rfl hd_M_letter ⟨Nat.le_of_ble_eq_true rfl, Nat.le_of_ble_eq_true rfl⟩) hK hXs hP hD hA hS rfl hl.1 rfl (Nat.le_of_ble_eq_true rfl) d_L_law_695 ⟨Nat.le_of_ble_eq_true rfl, Nat.le_of_ble_eq_true rfl⟩ (fun r_ v_ H locs hw hP hD hS => ?_)
  have hw1 : r_ = (leR n d ((xs (i + 1))) ((xs (i + 2)))) := hw.1
  obtain ⟨t2, m2, hw2⟩ := hw.2
  have hw1 := hw1.symm; subst hw1
  have hw2 := hw2.symm; subst hw2
  refine lv_icmp_eq (tgt := 759) hx hb d_L_law_698 (by decide) (fun _ => ?_) (fun c9 => absurd (rfl) c9)
  exact kk _ _ _ _ _ hP hD hS
set_option maxHeartbeats 4000000 in
set_option maxRecDepth 100000 in
theorem lc_16 {p : Program} {l : Launch} {e : Env} {s : State} {m : MethodId} {below : List Frame} {meth : Method} {c : Code} {D : va_G} {h k : Nat → Nat} {cA : ClassId} {cI : Nat → ClassId} {n tb b L : Nat} {xs : Nat → Int32} (hL : L ≤ 4609) (C0 : lw_At p s m meth c b L xs) (hn : 12 ≤ n) (hn2 : n ≤ 24) (hK : va_K D classes [(cA, .byte), (cI 1, .int), (cI 2, .int), (cI 3, .int)] s) (hXs : cX tb (fun q : Nat => s.heap.size ≤ q) s s.heap) {i : Nat} (hi : i + 9 ≤ L) {d t mk : Nat → BitVec 8} {H : Heap} {locs : List Loc} {ls : Array Slot} (hP : va_P D classes (cW h cA n d ++ mW k cI n (mU d t mk)) H) (hD : va_D (fun q : Nat => s.heap.size ≤ q) (cW h cA n d ++ mW k cI n (mU d t mk))) (hS : va_S (fun q : Nat => s.heap.size ≤ q) s.heap H locs) (hl : lv_has ls 4 [(3, .int (nI (i))), (2, .ref (k 0)), (1, .ref (h 0)), (0, .ref (b))]) (kk : ∀ (d t mk : Nat → BitVec 8) (H : Heap) (locs : List Loc), va_P D classes (cW h cA n d ++ mW k cI n (mU d t mk)) H → va_D (fun q : Nat => s.heap.size ≤ q) (cW h cA n d ++ mW k cI n (mU d t mk)) → va_S (fun q : Nat => s.heap.size ≤ q) s.heap H locs → W p l e room_1 s m #[Value.ref b] below meth c H locs 9 25641 (lw_Z below #[Value.ref b] s) (F0 m 759 ls [])) : W p l e room_1 s m #[Value.ref b] below meth c H locs 9 25641 (lw_Z below #[Value.ref b] s) (F0 m 703 ls []) := by
  obtain ⟨hx, hb, hr, hml, hown, hts, hX, hbl, hlocks, hgv⟩ := C0
  have hown : s.vm.findClass R_L = some m.cls := hown
  have hA : ∀ q : Nat, s.heap.size ≤ q → (fun q : Nat => s.heap.size ≤ q) q := fun _ h => h
  have hbA : ¬ (fun q : Nat => s.heap.size ≤ q) b := Nat.not_le.mpr hbl
  refine lv_aload_n hx hb d_L_law_703 rfl (lv_at hl 2 rfl) ?_
  refine lw_Ci (tb := tb) (As := []) (rest := []) (index := 98) hx hb hml hown hts (c_T_room l D h cA n tb (va_A (cW h cA n d) H.size) hn hn2 d ) (cwV 0 hts (gdL_V m_382 m_383 m_384 m_30 m_385) rfl rfl rfl hd_T_room ⟨Nat.le_of_ble_eq_true rfl, Nat.le_of_ble_eq_true rfl⟩) hK hXs hP hD hA hS rfl hl.1 rfl (Nat.le_of_ble_eq_true rfl) d_L_law_704 ⟨Nat.le_of_ble_eq_true rfl, Nat.le_of_ble_eq_true rfl⟩ (fun r_ v_ H locs hw hP hD hS => ?_)
  have hw1 : r_ = (roR n d ) := hw.1
  have hw2 : v_ = d := hw.2
  have hw1 := hw1.symm; subst hw1
  have hw2 := hw2.symm; subst hw2
  refine lv_aload_n hx hb d_L_law_707 rfl (lv_at hl 1 rfl) ?_
  refine lw_Mi (tb := tb) (As := []) (rest := [.int (roR n d )]) (index := 101) hx hb hml hown hts (c_M_room l D k cI n (va_A (mW k cI n (mU d t mk)) H.size) hn hn2 d t mk ) (cwV 0 hts (gdL_V m_589 m_590 m_591 m_33 m_592) rfl rfl rfl hd_M_room ⟨Nat.le_of_ble_eq_true rfl, Nat.le_of_ble_eq_true rfl⟩) hK hXs hP hD hA hS rfl hl.1 rfl (Nat.le_of_ble_eq_true rfl) d_L_law_708 ⟨Nat.le_of_ble_eq_true rfl, Nat.le_of_ble_eq_true rfl⟩ (fun r_ v_ H locs hw hP hD hS => ?_)
  have hw1 : r_ = roR n d := by
    rcases hw.1 with ⟨j, hj, hsr, q⟩ | ⟨hsr, q⟩
    · rw [q, ro_eq hn hn2 hsr]
    · rw [q, roR, oS_n hsr]
  obtain ⟨t2, m2, hw2⟩ := hw.2
  have hw1 := hw1.symm; subst hw1
  have hw2 := hw2.symm; subst hw2
  refine lv_icmp_eq (tgt := 759) hx hb d_L_law_711 (by decide) (fun _ => ?_) (fun c9 => absurd (rfl) c9)
  exact kk _ _ _ _ _ hP hD hS
set_option maxHeartbeats 4000000 in
set_option maxRecDepth 100000 in
theorem lc_17 {p : Program} {l : Launch} {e : Env} {s : State} {m : MethodId} {below : List Frame} {meth : Method} {c : Code} {D : va_G} {h k : Nat → Nat} {cA : ClassId} {cI : Nat → ClassId} {n tb b L : Nat} {xs : Nat → Int32} (hL : L ≤ 4609) (C0 : lw_At p s m meth c b L xs) (hn : 12 ≤ n) (hn2 : n ≤ 24) (hK : va_K D classes [(cA, .byte), (cI 1, .int), (cI 2, .int), (cI 3, .int)] s) (hXs : cX tb (fun q : Nat => s.heap.size ≤ q) s s.heap) {i : Nat} (hi : i + 9 ≤ L) {d t mk : Nat → BitVec 8} {H : Heap} {locs : List Loc} {ls : Array Slot} (hP : va_P D classes (cW h cA n d ++ mW k cI n (mU d t mk)) H) (hD : va_D (fun q : Nat => s.heap.size ≤ q) (cW h cA n d ++ mW k cI n (mU d t mk))) (hS : va_S (fun q : Nat => s.heap.size ≤ q) s.heap H locs) (hl : lv_has ls 4 [(3, .int (nI (i))), (2, .ref (k 0)), (1, .ref (h 0)), (0, .ref (b))]) (kk : ∀ (d t mk : Nat → BitVec 8) (H : Heap) (locs : List Loc), va_P D classes (cW h cA n d ++ mW k cI n (mU d t mk)) H → va_D (fun q : Nat => s.heap.size ≤ q) (cW h cA n d ++ mW k cI n (mU d t mk)) → va_S (fun q : Nat => s.heap.size ≤ q) s.heap H locs → W p l e room_1 s m #[Value.ref b] below meth c H locs 9 25641 (lw_Z below #[Value.ref b] s) (F0 m 759 ls [])) : W p l e room_1 s m #[Value.ref b] below meth c H locs 9 25641 (lw_Z below #[Value.ref b] s) (F0 m 716 ls []) := by
  obtain ⟨hx, hb, hr, hml, hown, hts, hX, hbl, hlocks, hgv⟩ := C0
  have hown : s.vm.findClass R_L = some m.cls := hown
  have hA : ∀ q : Nat, s.heap.size ≤ q → (fun q : Nat => s.heap.size ≤ q) q := fun _ h => h
  have hbA : ¬ (fun q : Nat => s.heap.size ≤ q) b := Nat.not_le.mpr hbl
  refine lv_aload_n hx hb d_L_law_716 rfl (lv_at hl 2 rfl) ?_
  refine lv_aload_n hx hb d_L_law_717 rfl (lv_at hl 3 rfl) ?_
  refine lv_iload_n hx hb d_L_law_718 rfl (lv_at hl 0 rfl) ?_
  refine lv_iconst (v := nI 1) hx hb d_L_law_719 rfl ?_
  refine lv_iaddN hx hb d_L_law_720 ?_
  refine l_sld hx hb hX hbl hbA hS (a := i + 1) (by omega) hL d_L_law_721 ?_
  refine lv_aload_n hx hb d_L_law_722 rfl (lv_at hl 3 rfl) ?_
  refine lv_iload_n hx hb d_L_law_723 rfl (lv_at hl 0 rfl) ?_
  refine lv_iconst (v := nI 2) hx hb d_L_law_724 rfl ?_
  refine lv_iaddN hx hb d_L_law_725 ?_
  refine l_sld hx hb hX hbl hbA hS (a := i + 2) (by omega) hL d_L_law_726 ?_
  refine lv_aload_n hx hb d_L_law_727 rfl (lv_at hl 3 rfl) ?_
  refine lv_iload_n hx hb d_L_law_728 rfl (lv_at hl 0 rfl) ?_
  refine lv_iconst (v := nI 3) hx hb d_L_law_729 rfl ?_
  refine lv_iaddN hx hb d_L_law_730 ?_
  refine l_sld hx hb hX hbl hbA hS (a := i + 3) (by omega) hL d_L_law_731 ?_
  refine lw_Ci (tb := tb) (As := [.int (xs (i + 1)), .int (xs (i + 2)), .int (xs (i + 3))]) (rest := []) (index := 102) hx hb hml hown hts (c_T_sum l D h cA n tb (va_A (cW h cA n d) H.size) hn hn2 d ((xs (i + 1))) ((xs (i + 2))) ((xs (i + 3)))) (cwV 3 hts (gdL_V m_390 m_391 m_392 m_30 m_393) rfl rfl rfl hd_T_sum ⟨Nat.le_of_ble_eq_true rfl, Nat.le_of_ble_eq_true rfl⟩) hK hXs hP hD hA hS rfl hl.1 rfl (Nat.le_of_ble_eq_true rfl) d_L_law_732 ⟨Nat.le_of_ble_eq_true rfl, Nat.le_of_ble_eq_true rfl⟩ (fun r_ v_ H locs hw hP hD hS => ?_)
  have hw1 : r_ = (suR n d ((xs (i + 1))) ((xs (i + 2))) ((xs (i + 3)))) := hw.1
  have hw2 : v_ = d := hw.2
  have hw1 := hw1.symm; subst hw1
  have hw2 := hw2.symm; subst hw2
  refine lv_aload_n hx hb d_L_law_735 rfl (lv_at hl 1 rfl) ?_
  refine lv_aload_n hx hb d_L_law_736 rfl (lv_at hl 3 rfl) ?_
  refine lv_iload_n hx hb d_L_law_737 rfl (lv_at hl 0 rfl) ?_
  refine lv_iconst (v := nI 1) hx hb d_L_law_738 rfl ?_
  refine lv_iaddN hx hb d_L_law_739 ?_
  refine l_sld hx hb hX hbl hbA hS (a := i + 1) (by omega) hL d_L_law_740 ?_
  refine lv_aload_n hx hb d_L_law_741 rfl (lv_at hl 3 rfl) ?_
  refine lv_iload_n hx hb d_L_law_742 rfl (lv_at hl 0 rfl) ?_
  refine lv_iconst (v := nI 2) hx hb d_L_law_743 rfl ?_
  refine lv_iaddN hx hb d_L_law_744 ?_
  refine l_sld hx hb hX hbl hbA hS (a := i + 2) (by omega) hL d_L_law_745 ?_
  refine lv_aload_n hx hb d_L_law_746 rfl (lv_at hl 3 rfl) ?_
  refine lv_iload_n hx hb d_L_law_747 rfl (lv_at hl 0 rfl) ?_
  refine lv_iconst (v := nI 3) hx hb d_L_law_748 rfl ?_
  refine lv_iaddN hx hb d_L_law_749 ?_
  refine l_sld hx hb hX hbl hbA hS (a := i + 3) (by omega) hL d_L_law_750 ?_
  refine lw_Mi (tb := tb) (As := [.int (xs (i + 1)), .int (xs (i + 2)), .int (xs (i + 3))]) (rest := [.int (suR n d ((xs (i + 1))) ((xs (i + 2))) ((xs (i + 3))))]) (index := 106) hx hb hml hown hts (c_M_sum l D k cI n (va_A (mW k cI n (mU d t mk)) H.size) hn hn2 d t mk ((xs (i + 1))) ((xs (i + 2))) ((xs (i + 3)))) (cwV 3 hts (gdL_V m_434 m_435 m_436 m_33 m_437) rfl rfl rfl hd_M_sum ⟨Nat.le_of_ble_eq_true rfl, Nat.le_of_ble_eq_true rfl⟩) hK hXs hP hD hA hS rfl hl.1 rfl (Nat.le_of_ble_eq_true rfl) d_L_law_751 ⟨Nat.le_of_ble_eq_true rfl, Nat.le_of_ble_eq_true rfl⟩ (fun r_ v_ H locs hw hP hD hS => ?_)
  have hw1 : r_ = (suR n d ((xs (i + 1))) ((xs (i + 2))) ((xs (i + 3)))) := hw.1
  obtain ⟨t2, m2, hw2⟩ := hw.2
  have hw1 := hw1.symm; subst hw1
  have hw2 := hw2.symm; subst hw2
  refine lv_icmp_eq (tgt := 759) hx hb d_L_law_754 (by decide) (fun _ => ?_) (fun c9 => absurd (rfl) c9)
  exact kk _ _ _ _ _ hP hD hS
