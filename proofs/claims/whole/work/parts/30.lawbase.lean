/-! THE CLAIM OUT OF ONE WALK OF THE LAW'S BODY. Your part is whole_start (and what it stands on); all else here is the same for every law, but numbers. -/
def R_law : String := "TwinTablesLaw"
def lw_P (b : Addr) (xs : List Int32) (args : Array Value) (s : State) : Prop := args = #[.ref b] ∧ s.IntsAt b xs ∧ xs.length ≤ 4609 ∧ (Jvm.Cond.and given_1 narrow_1).before args s = true
def lw_Q (_ : Array Value) (s : State) (o : Outcome) (t : State) : Prop := o = .returned (some (.int 1)) ∧ Framed s o t [] 600000 7302250
def lw_Z (below : List Frame) (a : Array Value) (s : State) : State → Prop := fun t => ∃ o, t.status = .running ∧ Ended t below o ∧ lw_Q a s o t
/-- the law's own end, with 1 on the stack, nothing written that was there before, its room as the claim has it -/
theorem lw_ret {p : Program} {l : Launch} {e : Env} {s : State} {m : MethodId} {below : List Frame} {meth : Method} {c : Code} {b : Nat} (hx : p.tables.exec = Jvm.exec) (hb : c.code = code) (hr : meth.sig.returnType = ret) (hlocks : meth.locks = false) {pc : Nat} {H : Heap} {ls : Array Slot} (hdg : decode code pc = .ok (.ireturn, 1)) : W p l e room_1 s m #[Value.ref b] below meth c H [] 600000 7302250 (lw_Z below #[Value.ref b] s) (F0 m pc ls [.int 1]) := by
  intro T hT X
  obtain ⟨fs, hret, hrun, hended, hW, hframe⟩ := X.leave (v := some (.int 1)) (hlocks := hlocks) (fun h => by rw [hr] at h; cases h)
  have hmeth' : T.vm.method? m = some meth := X.method'
  refine ⟨T.setFrames fs, ?_, .returned (some (.int 1)), hrun, hended, rfl, ⟨_, rfl⟩, hW, hframe⟩
  jvm_step X.here [X.here.top, hx, hb, hdg, hmeth', hr, ret, narrow_b1]
  (try refine ⟨rfl, ?_⟩); (try refine ⟨rfl, ?_⟩)
  first | (intro acts; rw [hret _ acts rfl rfl rfl]) | rw [hret _ _ rfl rfl rfl]
  exact Steps.refl _
/-- what holds at the law's entry: the machine, the code, the tables' words (any of lw_tbl by 'hts w (by decide +kernel)'), the script of L ints xs at the cell b, what the Statement gives of the start (any of its parts by flat_of_before) -/
def lw_At (p : Program) (s : State) (m : MethodId) (meth : Method) (c : Code) (b L : Nat) (xs : Nat → Int32) : Prop :=
  p.tables.exec = Jvm.exec ∧ c.code = code ∧ meth.sig.returnType = ret ∧ c.maxLocals = 4 ∧ s.vm.findClass R_law = some m.cls ∧ (∀ w ∈ lw_tbl, w.before #[Value.ref b] s = true) ∧ va_X b L xs s s.heap ∧ b < s.heap.size ∧ meth.locks = false ∧ (Jvm.Cond.and given_1 narrow_1).before #[Value.ref b] s = true
theorem gdL_V {own C : String} {idx k : Nat} {y : MethodName} {b : ByteArray} {r : Option FieldType} (h1 : Cond.methodLink own idx y ∈ ALL) (h2 : Cond.instanceMethod y ∈ ALL) (h3 : Cond.selects C y y ∈ ALL) (h4 : Cond.initialized C ∈ ALL) (h5 : Cond.code y b k r ∈ ALL) : GoodIn lw_tbl (wsV own idx C y (.code y b k r :: ALL)) := by
  intro w hw
  simp only [wsV, List.cons_append, List.nil_append, List.mem_cons] at hw
  rcases hw with rfl | rfl | rfl | rfl | rfl | hw
  · exact ALL_in _ h1
  · exact ALL_in _ h2
  · exact ALL_in _ h3
  · exact ALL_in _ h4
  · exact ALL_in _ h5
  · exact ALL_in _ hw
theorem gdL_S {own : String} {idx k : Nat} {y : MethodName} {b : ByteArray} {r : Option FieldType} (h1 : Cond.methodLink own idx y ∈ ALL) (h2 : Cond.static y ∈ ALL) (h4 : Cond.initialized own ∈ ALL) (h5 : Cond.code y b k r ∈ ALL) : GoodIn lw_tbl (wsS own idx y (.code y b k r :: ALL)) := by
  intro w hw
  simp only [wsS, List.cons_append, List.nil_append, List.mem_cons] at hw
  rcases hw with rfl | rfl | rfl | rfl | hw
  · exact ALL_in _ h1
  · exact ALL_in _ h2
  · exact ALL_in _ h4
  · exact ALL_in _ h5
  · exact ALL_in _ hw
theorem gdL_C {k : Nat} {y : MethodName} {b : ByteArray} {r : Option FieldType} (h5 : Cond.code y b k r ∈ ALL) : GoodIn lw_tbl (.code y b k r :: ALL) := by
  intro w hw
  rcases List.mem_cons.mp hw with rfl | hw
  · exact ALL_in _ h5
  · exact ALL_in _ hw
theorem cX_n {tb : Nat} {A B : Nat → Prop} {U : State} {H : Heap} (hAB : ∀ q, B q → A q) (h : cX tb A U H) : cX tb B U H := ⟨h.1.narrow hAB, ⟨h.2.1.choose, by
  obtain ⟨h1, h2, h3, h4, h5, h6, h7⟩ := h.2.1.choose_spec
  exact ⟨h1, h2, h3, h4, h5, h6, fun z => h7 (hAB _ z)⟩⟩, h.2.2⟩
abbrev w_L_cell : List Cond := .code y_L_cell b_L_cell 2 (some .int) :: ALL
abbrev rm_L_cell : Room := { frames := 0, cells := 0, slots := 0, locals := 0 }
theorem hd_L_cell : y_L_cell.cls = R_L ∧ y_L_cell.cls ≠ "java/lang/invoke/MethodHandle" ∧ y_L_cell.cls ≠ "java/lang/invoke/VarHandle" ∧ (parseMethodDescriptor y_L_cell.desc).map (fun d => d.parameters.length) = some 2 := by decide +kernel
def cl0 (L : Nat) (xs : Nat → Int32) : Int32 := if 0 < L then xs 0 else 0
set_option maxHeartbeats 4000000 in
set_option maxRecDepth 100000 in
theorem c_L_cell (l : Launch) (b L : Nat) (xs : Nat → Int32) (hL : L < 2 ^ 31) : Met l y_L_cell w_L_cell rm_L_cell (va_Pc [.ref b, .int (nI 0)] (fun U => va_X b L xs U U.heap)) (QcRead (cl0 L xs)) 0 0 (fun _ => False) := by
  refine g_ofW (cc := b_L_cell) (maxL := 2) (ret := (some .int)) (by decide) rfl (Nat.le_of_ble_eq_true rfl) ?_
  intro p e s m below meth c ls hx hb hml hr hlk hown hts hnm hX hl
  have hl : lv_has ls 2 [(0, .ref b), (1, .int (nI 0))] := hl
  have hS : va_S (fun _ => False) s.heap s.heap [] := va_S.rf
  have hbl : b < s.heap.size := by obtain ⟨scr, h1, -⟩ := hX; exact (Array.getElem?_eq_some_iff.mp h1).1
  refine lv_iload_n hx hb d_L_cell_0 rfl (lv_at hl 1 rfl) ?_
  refine lv_aload_n hx hb d_L_cell_1 rfl (lv_at hl 0 rfl) ?_
  refine va_slen hx hb hX hbl (fun z => z) hS d_L_cell_2 ?_
  refine lv_icmp_ge (tgt := 12) hx hb d_L_cell_3 (by decide) (fun c_3 => ?_) (fun c_3 => ?_)
  · have h0 : L = 0 := by have := (nI_leI (a := L) (b := 0) hL (by decide)).mp c_3; omega
    refine lv_iconst (v := nI 0) hx hb d_L_cell_12 rfl ?_
    exact W.iret hx hb hr (fun t ht hW => ⟨by rw [cl0, if_neg (by omega)]; rfl, ht⟩) (fun _ h => by cases h) d_L_cell_13 hlk
  · have h0 : 0 < L := ge_f (k := L) hL (by decide) c_3
    refine lv_aload_n hx hb d_L_cell_6 rfl (lv_at hl 0 rfl) ?_
    refine lv_iload_n hx hb d_L_cell_7 rfl (lv_at hl 1 rfl) ?_
    refine va_sld hx hb hX hbl (fun z => z) hS (vp_in_nI h0 hL) d_L_cell_8 ?_
    refine lv_goto (tgt := 13) hx hb d_L_cell_9 (by decide) ?_
    exact W.iret hx hb hr (fun t ht hW => ⟨by rw [cl0, if_pos h0, nI_clamp (by decide)], ht⟩) (fun _ h => by cases h) d_L_cell_13 hlk
section LWC
variable {p : Program} {l : Launch} {e : Env} {s : State} {m : MethodId} {args : Array Value} {below : List Frame} {meth : Method} {c : Code} {H : Heap} {locs : List Loc} {Q : State → Prop}
variable {pc nL : Nat} {ls : Array Slot} {rest st0 : List Value} {D : va_G} {h k : Nat → Nat} {cA : ClassId} {cI : Nat → ClassId} {n tb : Nat} {A : Nat → Prop} {d : Nat → BitVec 8} {u : Nat → Nat → BitVec 8} {ws : List Cond} {bytes : ByteArray} {maxL index kn cells slots : Nat} {y : MethodName} {ret : Option FieldType} {rm : Room} {As : List Value}
theorem l_sld (hx : p.tables.exec = Jvm.exec) (hb : c.code = code) {b L : Nat} {xs : Nat → Int32} (hX : va_X b L xs s s.heap) (hbl : b < s.heap.size) (hbA : ¬ A b) (hS : va_S A s.heap H locs) {a : Nat} (ha : a < L) (hL : L ≤ 4609) (hdg : decode code pc = .ok (.iaload, 1)) (kk : W p l e room_1 s m args below meth c H locs cells slots Q (F0 m (pc + 1) ls (.int (xs a) :: rest))) : W p l e room_1 s m args below meth c H locs cells slots Q (F0 m pc ls (.int (nI a) :: .ref b :: rest)) := by
  refine va_sld hx hb hX hbl hbA hS (vp_in_nI ha (by omega)) hdg ?_
  rw [nI_clamp (by omega)]
  exact kk
theorem lw_Ci {post : Int32 → (Nat → BitVec 8) → Prop} (hx : p.tables.exec = Jvm.exec) (hb : c.code = code) (hml : c.maxLocals = 4) (hown : s.vm.findClass R_L = some m.cls) (hts : ∀ w ∈ lw_tbl, w.before args s = true) (hM : Met l y ws rm (va_Pc (.ref (h 0) :: As) (cB D h cA n tb (va_A (cW h cA n d) H.size) d)) (va_Qi post (cB D h cA n tb (va_A (cW h cA n d) H.size)) (va_A (cW h cA n d) H.size)) 0 0 (va_A (cW h cA n d) H.size)) (cw : CallW room_1 s args R_L R_T index y bytes maxL ret ws rm 0 0 kn)
    (hK : va_K D classes [(cA, .byte), (cI 1, .int), (cI 2, .int), (cI 3, .int)] s) (hXs : cX tb A s s.heap) (hP : va_P D classes (cW h cA n d ++ mW k cI n u) H) (hD : va_D A (cW h cA n d ++ mW k cI n u)) (hA : ∀ q, s.heap.size ≤ q → A q) (hS : va_S A s.heap H locs) (hn : As.length = kn) (hl : ls.size = 4) (hst : st0 = As.reverse ++ .ref (h 0) :: rest) (hrm : (rest.map fun v => v.category).sum ≤ 8) (hdg : decode code pc = .ok (.invokevirtual index, 3)) (hf : cells ≤ room_1.cells ∧ slots ≤ room_1.slots)
    (kk : ∀ (r : Int32) (v : Nat → BitVec 8) (H1 : Heap) (locs1 : List Loc), post r v → va_P D classes (cW h cA n v ++ mW k cI n u) H1 → va_D A (cW h cA n v ++ mW k cI n u) → va_S A s.heap H1 locs1 → W p l e room_1 s m args below meth c H1 locs1 cells slots Q (F0 m (pc + 3) ls (.int r :: rest))) : W p l e room_1 s m args below meth c H locs cells slots Q (F0 m pc ls st0) := by
  have hPc : va_P D classes (cW h cA n d) H := hP.sub [0, 1, 2, 3, 4] rfl
  have hDc := hD.sub (ws' := cW h cA n d) [0, 1, 2, 3, 4] (by decide) rfl
  have hFc := va_free (wc := cW h cA n d) hD hS hA [0, 1, 2, 3, 4] rfl
  have hKc := (hK.sub (tys' := [(cA, .byte)]) [0] rfl)
  refine va_calli (va_runV (As := As) (rest := rest) (g := F0 m pc ls st0) ⟨hx, hb, hml, hown, hts⟩ hM cw ⟨fun a U g mk q => ⟨q.1, gB_blind cX_x a U g mk q.2⟩, va_recv (ci := 0) (q0 := 0) hKc hPc rfl rfl, fun U hU hW => ⟨rfl, ⟨by rw [hU]; exact hPc, va_K.moved hW.alike hKc, hDc.self, by rw [hU]; exact cX_n hFc (cX_x A s U H hXs (fun a h1 h2 => hS.2.1 a h1 h2) hW)⟩⟩⟩ rfl hn hl hst (lv_room hrm) hdg hf) hS (fun q _ h => hFc q h) hFc (fun r v t H1 locs1 ht hvm hp hBv hz hk hS1 => ?_)
  obtain ⟨hP1, -, hD1, -⟩ := hBv
  rw [ht] at hP1
  obtain ⟨hP2, hD2⟩ := va_join (wr := mW k cI n u) (w1 := cW h cA n v) hP hD [0, 1, 2, 3, 4] [5, 6, 7, 8] rfl rfl (by decide) (by decide) hk hFc hP1 hD1
  exact kk r v H1 locs1 hp (hP2.sub [4, 5, 6, 7, 8, 0, 1, 2, 3] rfl) (hD2.sub [4, 5, 6, 7, 8, 0, 1, 2, 3] (by decide) rfl) hS1
theorem lw_Cl {post : Int64 → (Nat → BitVec 8) → Prop} (hx : p.tables.exec = Jvm.exec) (hb : c.code = code) (hml : c.maxLocals = 4) (hown : s.vm.findClass R_L = some m.cls) (hts : ∀ w ∈ lw_tbl, w.before args s = true) (hM : Met l y ws rm (va_Pc (.ref (h 0) :: As) (cB D h cA n tb (va_A (cW h cA n d) H.size) d)) (va_Ql post (cB D h cA n tb (va_A (cW h cA n d) H.size)) (va_A (cW h cA n d) H.size)) 0 0 (va_A (cW h cA n d) H.size)) (cw : CallW room_1 s args R_L R_T index y bytes maxL ret ws rm 0 0 kn)
    (hK : va_K D classes [(cA, .byte), (cI 1, .int), (cI 2, .int), (cI 3, .int)] s) (hXs : cX tb A s s.heap) (hP : va_P D classes (cW h cA n d ++ mW k cI n u) H) (hD : va_D A (cW h cA n d ++ mW k cI n u)) (hA : ∀ q, s.heap.size ≤ q → A q) (hS : va_S A s.heap H locs) (hn : As.length = kn) (hl : ls.size = 4) (hst : st0 = As.reverse ++ .ref (h 0) :: rest) (hrm : (rest.map fun v => v.category).sum ≤ 8) (hdg : decode code pc = .ok (.invokevirtual index, 3)) (hf : cells ≤ room_1.cells ∧ slots ≤ room_1.slots)
    (kk : ∀ (r : Int64) (v : Nat → BitVec 8) (H1 : Heap) (locs1 : List Loc), post r v → va_P D classes (cW h cA n v ++ mW k cI n u) H1 → va_D A (cW h cA n v ++ mW k cI n u) → va_S A s.heap H1 locs1 → W p l e room_1 s m args below meth c H1 locs1 cells slots Q (F0 m (pc + 3) ls (.long r :: rest))) : W p l e room_1 s m args below meth c H locs cells slots Q (F0 m pc ls st0) := by
  have hPc : va_P D classes (cW h cA n d) H := hP.sub [0, 1, 2, 3, 4] rfl
  have hDc := hD.sub (ws' := cW h cA n d) [0, 1, 2, 3, 4] (by decide) rfl
  have hFc := va_free (wc := cW h cA n d) hD hS hA [0, 1, 2, 3, 4] rfl
  have hKc := (hK.sub (tys' := [(cA, .byte)]) [0] rfl)
  refine va_calll (va_runV (As := As) (rest := rest) (g := F0 m pc ls st0) ⟨hx, hb, hml, hown, hts⟩ hM cw ⟨fun a U g mk q => ⟨q.1, gB_blind cX_x a U g mk q.2⟩, va_recv (ci := 0) (q0 := 0) hKc hPc rfl rfl, fun U hU hW => ⟨rfl, ⟨by rw [hU]; exact hPc, va_K.moved hW.alike hKc, hDc.self, by rw [hU]; exact cX_n hFc (cX_x A s U H hXs (fun a h1 h2 => hS.2.1 a h1 h2) hW)⟩⟩⟩ rfl hn hl hst (lv_room hrm) hdg hf) hS (fun q _ h => hFc q h) hFc (fun r v t H1 locs1 ht hvm hp hBv hz hk hS1 => ?_)
  obtain ⟨hP1, -, hD1, -⟩ := hBv
  rw [ht] at hP1
  obtain ⟨hP2, hD2⟩ := va_join (wr := mW k cI n u) (w1 := cW h cA n v) hP hD [0, 1, 2, 3, 4] [5, 6, 7, 8] rfl rfl (by decide) (by decide) hk hFc hP1 hD1
  exact kk r v H1 locs1 hp (hP2.sub [4, 5, 6, 7, 8, 0, 1, 2, 3] rfl) (hD2.sub [4, 5, 6, 7, 8, 0, 1, 2, 3] (by decide) rfl) hS1
theorem lw_Cv {post : (Nat → BitVec 8) → Prop} (hx : p.tables.exec = Jvm.exec) (hb : c.code = code) (hml : c.maxLocals = 4) (hown : s.vm.findClass R_L = some m.cls) (hts : ∀ w ∈ lw_tbl, w.before args s = true) (hM : Met l y ws rm (va_Pc (.ref (h 0) :: As) (cB D h cA n tb (va_A (cW h cA n d) H.size) d)) (va_Qv post (cB D h cA n tb (va_A (cW h cA n d) H.size)) (va_A (cW h cA n d) H.size)) 0 0 (va_A (cW h cA n d) H.size)) (cw : CallW room_1 s args R_L R_T index y bytes maxL ret ws rm 0 0 kn)
    (hK : va_K D classes [(cA, .byte), (cI 1, .int), (cI 2, .int), (cI 3, .int)] s) (hXs : cX tb A s s.heap) (hP : va_P D classes (cW h cA n d ++ mW k cI n u) H) (hD : va_D A (cW h cA n d ++ mW k cI n u)) (hA : ∀ q, s.heap.size ≤ q → A q) (hS : va_S A s.heap H locs) (hn : As.length = kn) (hl : ls.size = 4) (hst : st0 = As.reverse ++ .ref (h 0) :: rest) (hrm : (rest.map fun v => v.category).sum ≤ 8) (hdg : decode code pc = .ok (.invokevirtual index, 3)) (hf : cells ≤ room_1.cells ∧ slots ≤ room_1.slots)
    (kk : ∀ (v : Nat → BitVec 8) (H1 : Heap) (locs1 : List Loc), post v → va_P D classes (cW h cA n v ++ mW k cI n u) H1 → va_D A (cW h cA n v ++ mW k cI n u) → va_S A s.heap H1 locs1 → W p l e room_1 s m args below meth c H1 locs1 cells slots Q (F0 m (pc + 3) ls (rest))) : W p l e room_1 s m args below meth c H locs cells slots Q (F0 m pc ls st0) := by
  have hPc : va_P D classes (cW h cA n d) H := hP.sub [0, 1, 2, 3, 4] rfl
  have hDc := hD.sub (ws' := cW h cA n d) [0, 1, 2, 3, 4] (by decide) rfl
  have hFc := va_free (wc := cW h cA n d) hD hS hA [0, 1, 2, 3, 4] rfl
  have hKc := (hK.sub (tys' := [(cA, .byte)]) [0] rfl)
  refine va_callv (va_runV (As := As) (rest := rest) (g := F0 m pc ls st0) ⟨hx, hb, hml, hown, hts⟩ hM cw ⟨fun a U g mk q => ⟨q.1, gB_blind cX_x a U g mk q.2⟩, va_recv (ci := 0) (q0 := 0) hKc hPc rfl rfl, fun U hU hW => ⟨rfl, ⟨by rw [hU]; exact hPc, va_K.moved hW.alike hKc, hDc.self, by rw [hU]; exact cX_n hFc (cX_x A s U H hXs (fun a h1 h2 => hS.2.1 a h1 h2) hW)⟩⟩⟩ rfl hn hl hst (lv_room hrm) hdg hf) hS (fun q _ h => hFc q h) hFc (fun v t H1 locs1 ht hvm hp hBv hz hk hS1 => ?_)
  obtain ⟨hP1, -, hD1, -⟩ := hBv
  rw [ht] at hP1
  obtain ⟨hP2, hD2⟩ := va_join (wr := mW k cI n u) (w1 := cW h cA n v) hP hD [0, 1, 2, 3, 4] [5, 6, 7, 8] rfl rfl (by decide) (by decide) hk hFc hP1 hD1
  exact kk v H1 locs1 hp (hP2.sub [4, 5, 6, 7, 8, 0, 1, 2, 3] rfl) (hD2.sub [4, 5, 6, 7, 8, 0, 1, 2, 3] (by decide) rfl) hS1
theorem lw_Mi {post : Int32 → (Nat → Nat → BitVec 8) → Prop} (hx : p.tables.exec = Jvm.exec) (hb : c.code = code) (hml : c.maxLocals = 4) (hown : s.vm.findClass R_L = some m.cls) (hts : ∀ w ∈ lw_tbl, w.before args s = true) (hM : Met l y ws rm (va_Pc (.ref (k 0) :: As) (mB D k cI n (va_A (mW k cI n u) H.size) u)) (va_Qi post (mB D k cI n (va_A (mW k cI n u) H.size)) (va_A (mW k cI n u) H.size)) 0 0 (va_A (mW k cI n u) H.size)) (cw : CallW room_1 s args R_L R_M index y bytes maxL ret ws rm 0 0 kn)
    (hK : va_K D classes [(cA, .byte), (cI 1, .int), (cI 2, .int), (cI 3, .int)] s) (hXs : cX tb A s s.heap) (hP : va_P D classes (cW h cA n d ++ mW k cI n u) H) (hD : va_D A (cW h cA n d ++ mW k cI n u)) (hA : ∀ q, s.heap.size ≤ q → A q) (hS : va_S A s.heap H locs) (hn : As.length = kn) (hl : ls.size = 4) (hst : st0 = As.reverse ++ .ref (k 0) :: rest) (hrm : (rest.map fun v => v.category).sum ≤ 8) (hdg : decode code pc = .ok (.invokevirtual index, 3)) (hf : cells ≤ room_1.cells ∧ slots ≤ room_1.slots)
    (kk : ∀ (r : Int32) (v : Nat → Nat → BitVec 8) (H1 : Heap) (locs1 : List Loc), post r v → va_P D classes (cW h cA n d ++ mW k cI n v) H1 → va_D A (cW h cA n d ++ mW k cI n v) → va_S A s.heap H1 locs1 → W p l e room_1 s m args below meth c H1 locs1 cells slots Q (F0 m (pc + 3) ls (.int r :: rest))) : W p l e room_1 s m args below meth c H locs cells slots Q (F0 m pc ls st0) := by
  have hPc : va_P D classes (mW k cI n u) H := hP.sub [5, 6, 7, 8] rfl
  have hDc := hD.sub (ws' := mW k cI n u) [5, 6, 7, 8] (by decide) rfl
  have hFc := va_free (wc := mW k cI n u) hD hS hA [5, 6, 7, 8] rfl
  have hKc := (hK.sub (tys' := [(cI 1, .int), (cI 2, .int), (cI 3, .int)]) [1, 2, 3] rfl)
  refine va_calli (va_runV (As := As) (rest := rest) (g := F0 m pc ls st0) ⟨hx, hb, hml, hown, hts⟩ hM cw ⟨fun a U g mk q => ⟨q.1, gB_blind mX_x a U g mk q.2⟩, va_recv (ci := 3) (q0 := 0) hKc hPc rfl rfl, fun U hU hW => ⟨rfl, ⟨by rw [hU]; exact hPc, va_K.moved hW.alike hKc, hDc.self, by rw [hU]; exact trivial⟩⟩⟩ rfl hn hl hst (lv_room hrm) hdg hf) hS (fun q _ h => hFc q h) hFc (fun r v t H1 locs1 ht hvm hp hBv hz hk hS1 => ?_)
  obtain ⟨hP1, -, hD1, -⟩ := hBv
  rw [ht] at hP1
  obtain ⟨hP2, hD2⟩ := va_join (wr := cW h cA n d) (w1 := mW k cI n v) hP hD [5, 6, 7, 8] [0, 1, 2, 3, 4] rfl rfl (by decide) (by decide) hk hFc hP1 hD1
  exact kk r v H1 locs1 hp (hP2.sub [0, 1, 2, 3, 4, 5, 6, 7, 8] rfl) (hD2.sub [0, 1, 2, 3, 4, 5, 6, 7, 8] (by decide) rfl) hS1
theorem lw_Ml {post : Int64 → (Nat → Nat → BitVec 8) → Prop} (hx : p.tables.exec = Jvm.exec) (hb : c.code = code) (hml : c.maxLocals = 4) (hown : s.vm.findClass R_L = some m.cls) (hts : ∀ w ∈ lw_tbl, w.before args s = true) (hM : Met l y ws rm (va_Pc (.ref (k 0) :: As) (mB D k cI n (va_A (mW k cI n u) H.size) u)) (va_Ql post (mB D k cI n (va_A (mW k cI n u) H.size)) (va_A (mW k cI n u) H.size)) 0 0 (va_A (mW k cI n u) H.size)) (cw : CallW room_1 s args R_L R_M index y bytes maxL ret ws rm 0 0 kn)
    (hK : va_K D classes [(cA, .byte), (cI 1, .int), (cI 2, .int), (cI 3, .int)] s) (hXs : cX tb A s s.heap) (hP : va_P D classes (cW h cA n d ++ mW k cI n u) H) (hD : va_D A (cW h cA n d ++ mW k cI n u)) (hA : ∀ q, s.heap.size ≤ q → A q) (hS : va_S A s.heap H locs) (hn : As.length = kn) (hl : ls.size = 4) (hst : st0 = As.reverse ++ .ref (k 0) :: rest) (hrm : (rest.map fun v => v.category).sum ≤ 8) (hdg : decode code pc = .ok (.invokevirtual index, 3)) (hf : cells ≤ room_1.cells ∧ slots ≤ room_1.slots)
    (kk : ∀ (r : Int64) (v : Nat → Nat → BitVec 8) (H1 : Heap) (locs1 : List Loc), post r v → va_P D classes (cW h cA n d ++ mW k cI n v) H1 → va_D A (cW h cA n d ++ mW k cI n v) → va_S A s.heap H1 locs1 → W p l e room_1 s m args below meth c H1 locs1 cells slots Q (F0 m (pc + 3) ls (.long r :: rest))) : W p l e room_1 s m args below meth c H locs cells slots Q (F0 m pc ls st0) := by
  have hPc : va_P D classes (mW k cI n u) H := hP.sub [5, 6, 7, 8] rfl
  have hDc := hD.sub (ws' := mW k cI n u) [5, 6, 7, 8] (by decide) rfl
  have hFc := va_free (wc := mW k cI n u) hD hS hA [5, 6, 7, 8] rfl
  have hKc := (hK.sub (tys' := [(cI 1, .int), (cI 2, .int), (cI 3, .int)]) [1, 2, 3] rfl)
  refine va_calll (va_runV (As := As) (rest := rest) (g := F0 m pc ls st0) ⟨hx, hb, hml, hown, hts⟩ hM cw ⟨fun a U g mk q => ⟨q.1, gB_blind mX_x a U g mk q.2⟩, va_recv (ci := 3) (q0 := 0) hKc hPc rfl rfl, fun U hU hW => ⟨rfl, ⟨by rw [hU]; exact hPc, va_K.moved hW.alike hKc, hDc.self, by rw [hU]; exact trivial⟩⟩⟩ rfl hn hl hst (lv_room hrm) hdg hf) hS (fun q _ h => hFc q h) hFc (fun r v t H1 locs1 ht hvm hp hBv hz hk hS1 => ?_)
  obtain ⟨hP1, -, hD1, -⟩ := hBv
  rw [ht] at hP1
  obtain ⟨hP2, hD2⟩ := va_join (wr := cW h cA n d) (w1 := mW k cI n v) hP hD [5, 6, 7, 8] [0, 1, 2, 3, 4] rfl rfl (by decide) (by decide) hk hFc hP1 hD1
  exact kk r v H1 locs1 hp (hP2.sub [0, 1, 2, 3, 4, 5, 6, 7, 8] rfl) (hD2.sub [0, 1, 2, 3, 4, 5, 6, 7, 8] (by decide) rfl) hS1
theorem lw_Mv {post : (Nat → Nat → BitVec 8) → Prop} (hx : p.tables.exec = Jvm.exec) (hb : c.code = code) (hml : c.maxLocals = 4) (hown : s.vm.findClass R_L = some m.cls) (hts : ∀ w ∈ lw_tbl, w.before args s = true) (hM : Met l y ws rm (va_Pc (.ref (k 0) :: As) (mB D k cI n (va_A (mW k cI n u) H.size) u)) (va_Qv post (mB D k cI n (va_A (mW k cI n u) H.size)) (va_A (mW k cI n u) H.size)) 0 0 (va_A (mW k cI n u) H.size)) (cw : CallW room_1 s args R_L R_M index y bytes maxL ret ws rm 0 0 kn)
    (hK : va_K D classes [(cA, .byte), (cI 1, .int), (cI 2, .int), (cI 3, .int)] s) (hXs : cX tb A s s.heap) (hP : va_P D classes (cW h cA n d ++ mW k cI n u) H) (hD : va_D A (cW h cA n d ++ mW k cI n u)) (hA : ∀ q, s.heap.size ≤ q → A q) (hS : va_S A s.heap H locs) (hn : As.length = kn) (hl : ls.size = 4) (hst : st0 = As.reverse ++ .ref (k 0) :: rest) (hrm : (rest.map fun v => v.category).sum ≤ 8) (hdg : decode code pc = .ok (.invokevirtual index, 3)) (hf : cells ≤ room_1.cells ∧ slots ≤ room_1.slots)
    (kk : ∀ (v : Nat → Nat → BitVec 8) (H1 : Heap) (locs1 : List Loc), post v → va_P D classes (cW h cA n d ++ mW k cI n v) H1 → va_D A (cW h cA n d ++ mW k cI n v) → va_S A s.heap H1 locs1 → W p l e room_1 s m args below meth c H1 locs1 cells slots Q (F0 m (pc + 3) ls (rest))) : W p l e room_1 s m args below meth c H locs cells slots Q (F0 m pc ls st0) := by
  have hPc : va_P D classes (mW k cI n u) H := hP.sub [5, 6, 7, 8] rfl
  have hDc := hD.sub (ws' := mW k cI n u) [5, 6, 7, 8] (by decide) rfl
  have hFc := va_free (wc := mW k cI n u) hD hS hA [5, 6, 7, 8] rfl
  have hKc := (hK.sub (tys' := [(cI 1, .int), (cI 2, .int), (cI 3, .int)]) [1, 2, 3] rfl)
  refine va_callv (va_runV (As := As) (rest := rest) (g := F0 m pc ls st0) ⟨hx, hb, hml, hown, hts⟩ hM cw ⟨fun a U g mk q => ⟨q.1, gB_blind mX_x a U g mk q.2⟩, va_recv (ci := 3) (q0 := 0) hKc hPc rfl rfl, fun U hU hW => ⟨rfl, ⟨by rw [hU]; exact hPc, va_K.moved hW.alike hKc, hDc.self, by rw [hU]; exact trivial⟩⟩⟩ rfl hn hl hst (lv_room hrm) hdg hf) hS (fun q _ h => hFc q h) hFc (fun v t H1 locs1 ht hvm hp hBv hz hk hS1 => ?_)
  obtain ⟨hP1, -, hD1, -⟩ := hBv
  rw [ht] at hP1
  obtain ⟨hP2, hD2⟩ := va_join (wr := cW h cA n d) (w1 := mW k cI n v) hP hD [5, 6, 7, 8] [0, 1, 2, 3, 4] rfl rfl (by decide) (by decide) hk hFc hP1 hD1
  exact kk v H1 locs1 hp (hP2.sub [0, 1, 2, 3, 4, 5, 6, 7, 8] rfl) (hD2.sub [0, 1, 2, 3, 4, 5, 6, 7, 8] (by decide) rfl) hS1
end LWC
