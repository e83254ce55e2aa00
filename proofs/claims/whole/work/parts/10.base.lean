section TB
variable {p : Program} {l : Launch} {e : Env} {R : Room} {s : State} {m : MethodId} {args : Array Value} {below : List Frame} {meth : Method} {c : Code} {H : Heap} {locs : List Loc} {cells slots : Nat} {Q : State → Prop}
variable {cc : ByteArray} {pc : Nat} {ls : Array Slot} {rest : List Value}
theorem lv_eqi {x y : Int32} (h : x = y) (k : W p l e R s m args below meth c H locs cells slots Q (F0 m pc ls (.int y :: rest))) : W p l e R s m args below meth c H locs cells slots Q (F0 m pc ls (.int x :: rest)) := by
  subst h; exact k
theorem lv_eql {x y : Int64} (h : x = y) (k : W p l e R s m args below meth c H locs cells slots Q (F0 m pc ls (.long y :: rest))) : W p l e R s m args below meth c H locs cells slots Q (F0 m pc ls (.long x :: rest)) := by
  subst h; exact k
theorem lv_iaddN (hx : p.tables.exec = Jvm.exec) (hb : c.code = cc) {a b : Nat} (hdg : decode cc pc = .ok (.iadd, 1)) (k : W p l e R s m args below meth c H locs cells slots Q (F0 m (pc + 1) ls (.int (nI (a + b)) :: rest))) : W p l e R s m args below meth c H locs cells slots Q (F0 m pc ls (.int (nI b) :: .int (nI a) :: rest)) :=
  lv_iadd hx hb hdg (lv_eqi (nI_add a b) k)
theorem lv_imulN (hx : p.tables.exec = Jvm.exec) (hb : c.code = cc) {a b : Nat} (hdg : decode cc pc = .ok (.imul, 1)) (k : W p l e R s m args below meth c H locs cells slots Q (F0 m (pc + 1) ls (.int (nI (a * b)) :: rest))) : W p l e R s m args below meth c H locs cells slots Q (F0 m pc ls (.int (nI b) :: .int (nI a) :: rest)) :=
  lv_imul hx hb hdg (lv_eqi (pk_mul a b) k)
theorem lv_isubN (hx : p.tables.exec = Jvm.exec) (hb : c.code = cc) {a b : Nat} (hdg : decode cc pc = .ok (.isub, 1)) (h : b ≤ a) (k : W p l e R s m args below meth c H locs cells slots Q (F0 m (pc + 1) ls (.int (nI (a - b)) :: rest))) : W p l e R s m args below meth c H locs cells slots Q (F0 m pc ls (.int (nI b) :: .int (nI a) :: rest)) :=
  lv_isub hx hb hdg (lv_eqi (pk_sub h) k)
end TB
/-- a world that moves with a state u: its cells, its classes, its addresses, and what else stands (X) -/
def gB {σ : Type} (D : va_G) (tys : List (ClassId × FieldType)) (Wd : σ → va_W) (X : (Nat → Prop) → State → Heap → Prop) (A : Nat → Prop) (u : σ) (U : State) : Prop :=
  va_P D classes (Wd u) U.heap ∧ va_K D classes tys U ∧ va_D A (Wd u) ∧ X A U U.heap
def gX (X : (Nat → Prop) → State → Heap → Prop) : Prop := ∀ (A : Nat → Prop) (s U : State) (H : Heap), X A s s.heap → (∀ a : Nat, a < s.heap.size → ¬ A a → H[a]? = s.heap[a]?) → s.WarmedH U.vm → X A U H
def gW {σ : Type} (Wd : σ → va_W) : Prop := ∀ (A : Nat → Prop) (u v : σ), va_D A (Wd u) → va_D A (Wd v)
theorem gB_mid {σ : Type} {D : va_G} {tys : List (ClassId × FieldType)} {Wd : σ → va_W} {X : (Nat → Prop) → State → Heap → Prop} {A : Nat → Prop} {u0 u : σ} {s U : State} {H : Heap} {locs : List Loc} (hw : gW Wd) (hX : gX X) (hB : gB D tys Wd X A u0 s) (hP : va_P D classes (Wd u) H) (hS : va_S A s.heap H locs) (hU : U.heap = H) (hW : s.WarmedH U.vm) : gB D tys Wd X A u U := by
  obtain ⟨-, hK, hD, hx⟩ := hB
  refine ⟨by rw [hU]; exact hP, va_K.moved hW.alike hK, hw A u0 u hD, ?_⟩
  rw [hU]
  exact hX A s U H hx (fun a h1 h2 => hS.2.1 a h1 h2) hW
theorem gB_blind {σ : Type} {D : va_G} {tys : List (ClassId × FieldType)} {Wd : σ → va_W} {X : (Nat → Prop) → State → Heap → Prop} {A : Nat → Prop} {u : σ} (hX : gX X) (a : Array Value) (U : State) (g : JFrame) (mk : MethodId) (h : gB D tys Wd X A u U) : gB D tys Wd X A u (U.calling g mk a) := by
  obtain ⟨h1, h2, h3, h4⟩ := h
  refine ⟨h1, va_K.moved (u := U) (U := U.calling g mk a) (Vm.Alike.refl U.vm) h2, h3, ?_⟩
  exact hX A U (U.calling g mk a) U.heap h4 (fun _ _ _ => rfl) (State.WarmedH.refl U)
/-- a method's walk from its entry -/
theorem g_ofW {l : Launch} {y : MethodName} {ws ws' : List Cond} {rm : Room} {cc : ByteArray} {maxL : Nat} {ret : Option FieldType} {av : List Value} {Bs : State → Prop} {Qc : Array Value → State → Outcome → State → Prop} {mc ms : Nat} {A : Nat → Prop} (hy : plainName y.cls = true) (hw : ws = Cond.code y cc maxL ret :: ws') (hlen : (lg_sl av).length ≤ maxL)
    (body : ∀ (p : Program) (e : Env) (s : State) (m : MethodId) (below : List Frame) (meth : Method) (c : Code) (ls : Array Slot), p.tables.exec = Jvm.exec → c.code = cc → c.maxLocals = maxL → meth.sig.returnType = ret → meth.locks = false → s.vm.findClass y.cls = some m.cls → (∀ w ∈ ws, w.before av.toArray s = true) → meth.name = y.name → Bs s → lv_has ls maxL (lv_args 0 av) →
      W p l e rm s m av.toArray below meth c s.heap [] 0 0 (MQ below Qc av.toArray s mc ms A) (F0 m 0 ls [])) : Met l y ws rm (va_Pc av Bs) Qc mc ms A := by
  refine Met.ofW (cc := cc) (maxL := maxL) (ret := ret) hy hw ?_
  intro p e s m args below meth c s₁ B hml hv
  obtain ⟨rfl, hB⟩ := hv
  rw [lg_entry_eq]
  exact body p e s m below meth c _ B.exec B.bytes hml B.returns B.notSynchronized (findClass_of_methodNamed B.named) (atoms_spec (ws := ws) B.pre) (name_of_methodNamed B.named B.method).1 hB (lv_entry av hlen)
section TR
variable {p : Program} {l : Launch} {e : Env} {R : Room} {s : State} {m : MethodId} {args : Array Value} {below : List Frame} {meth : Method} {c : Code} {H : Heap} {locs : List Loc} {cells slots : Nat} {Q : State → Prop}
variable {cc : ByteArray} {pc : Nat} {ls : Array Slot} {rest : List Value}
variable {σ : Type} {D : va_G} {tys : List (ClassId × FieldType)} {Wd : σ → va_W} {X : (Nat → Prop) → State → Heap → Prop} {A : Nat → Prop} {u0 u : σ}
theorem g_iret {post : Int32 → σ → Prop} {v : Int32} (hx : p.tables.exec = Jvm.exec) (hb : c.code = cc) (hr : meth.sig.returnType = some .int) (hlk : meth.locks = false) (hw : gW Wd) (hX : gX X) (hB : gB D tys Wd X A u0 s) (hP : va_P D classes (Wd u) H) (hS : va_S A s.heap H locs) (hp : post v u) (hdg : decode cc pc = .ok (.ireturn, 1)) : W p l e R s m args below meth c H locs cells slots (MQ below (va_Qi post (gB D tys Wd X A) A) args s cells slots A) (F0 m pc ls [.int v]) :=
  W.iret hx hb hr (fun t ht hW => ⟨⟨v, u, rfl, hp, gB_mid hw hX hB hP hS ht hW⟩, hS.F ht⟩) hS.2.2 hdg hlk
theorem g_zret {post : Int32 → σ → Prop} {v : Int32} {ty : FieldType} (hx : p.tables.exec = Jvm.exec) (hb : c.code = cc) (hr : meth.sig.returnType = some ty) (hn : narrow ty (.int v) = .int v) (hlk : meth.locks = false) (hw : gW Wd) (hX : gX X) (hB : gB D tys Wd X A u0 s) (hP : va_P D classes (Wd u) H) (hS : va_S A s.heap H locs) (hp : post v u) (hdg : decode cc pc = .ok (.ireturn, 1)) : W p l e R s m args below meth c H locs cells slots (MQ below (va_Qi post (gB D tys Wd X A) A) args s cells slots A) (F0 m pc ls [.int v]) :=
  W.zret hx hb hr hn (fun t ht hW => ⟨⟨v, u, rfl, hp, gB_mid hw hX hB hP hS ht hW⟩, hS.F ht⟩) hS.2.2 hdg hlk
theorem g_lret {post : Int64 → σ → Prop} {v : Int64} (hx : p.tables.exec = Jvm.exec) (hb : c.code = cc) (hr : meth.sig.returnType = some .long) (hlk : meth.locks = false) (hw : gW Wd) (hX : gX X) (hB : gB D tys Wd X A u0 s) (hP : va_P D classes (Wd u) H) (hS : va_S A s.heap H locs) (hp : post v u) (hdg : decode cc pc = .ok (.lreturn, 1)) : W p l e R s m args below meth c H locs cells slots (MQ below (va_Ql post (gB D tys Wd X A) A) args s cells slots A) (F0 m pc ls [.long v]) :=
  W.lret hx hb hr (fun t ht hW => ⟨⟨v, u, rfl, hp, gB_mid hw hX hB hP hS ht hW⟩, hS.F ht⟩) hS.2.2 hdg hlk
theorem g_vret {post : σ → Prop}  (hx : p.tables.exec = Jvm.exec) (hb : c.code = cc) (hr : meth.sig.returnType = none) (hlk : meth.locks = false) (hw : gW Wd) (hX : gX X) (hB : gB D tys Wd X A u0 s) (hP : va_P D classes (Wd u) H) (hS : va_S A s.heap H locs) (hp : post u) (hdg : decode cc pc = .ok (.return_, 1)) : W p l e R s m args below meth c H locs cells slots (MQ below (va_Qv post (gB D tys Wd X A) A) args s cells slots A) (F0 m pc ls []) :=
  W.vret hx hb hr (fun t ht hW => ⟨⟨u, rfl, hp, gB_mid hw hX hB hP hS ht hW⟩, hS.F ht⟩) hS.2.2 hdg hlk
theorem g_qret {post : Option Nat → σ → Prop} {v : Option Nat} {cn : String} (hx : p.tables.exec = Jvm.exec) (hb : c.code = cc) (hr : meth.sig.returnType = some (.object cn)) (hlk : meth.locks = false) (hw : gW Wd) (hX : gX X) (hB : gB D tys Wd X A u0 s) (hP : va_P D classes (Wd u) H) (hS : va_S A s.heap H locs) (hp : post v u) (hdg : decode cc pc = .ok (.areturn, 1)) : W p l e R s m args below meth c H locs cells slots (MQ below (va_Qq post (gB D tys Wd X A) A) args s cells slots A) (F0 m pc ls [va_rf v]) :=
  W.aret hx hb hr (Or.inl ⟨_, rfl⟩) (va_rf_or v) (fun t ht hW => ⟨⟨v, u, rfl, hp, gB_mid hw hX hB hP hS ht hW⟩, hS.F ht⟩) hS.2.2 hdg hlk
end TR
section TC
variable {p : Program} {l : Launch} {e : Env} {R : Room} {s : State} {m : MethodId} {args : Array Value} {below : List Frame} {meth : Method} {c : Code} {H : Heap} {locs : List Loc} {cells slots : Nat} {Q : State → Prop}
variable {cc : ByteArray} {pc : Nat} {ls : Array Slot} {rest : List Value}
variable {σ : Type} {D : va_G} {tys : List (ClassId × FieldType)} {Wd : σ → va_W} {X : (Nat → Prop) → State → Heap → Prop} {A : Nat → Prop} {u0 u : σ}
variable {Ts ws : List Cond} {bytes : ByteArray} {nL maxL index k : Nat} {own C host : String} {y : MethodName} {ret : Option FieldType} {rm : Room} {b : Addr} {As st0 : List Value}
theorem g_callVi {post : Int32 → σ → Prop} (S : CallFix p m c cc nL s args Ts own) (hM : Met l y ws rm (va_Pc (.ref b :: As) (gB D tys Wd X A u)) (va_Qi post (gB D tys Wd X A) A) 0 0 A) (cw : CallW R s args own C index y bytes maxL ret ws rm 0 0 k) (hw : gW Wd) (hX : gX X) (hB : gB D tys Wd X A u0 s) (hP : va_P D classes (Wd u) H) (hS : va_S A s.heap H locs) {ci : Nat} {T : u_T} {N : Nat} {fs : List Value} (hcl : classes[ci]? = some (C, T, N)) (q0 : Nat) (hrec : (Wd u)[q0]? = some (b, .inr (ci, fs))) (hn : As.length = k) (hl : ls.size = nL) (hst : st0 = As.reverse ++ .ref b :: rest) (hrm : (rest.map fun v => v.category).sum ≤ 8) (hdg : decode cc pc = .ok (.invokevirtual index, 3)) (hf : cells ≤ R.cells ∧ slots ≤ R.slots) (kk : ∀ (r : Int32) (v : σ) (H1 : Heap) (locs1 : List Loc), post r v → va_P D classes (Wd v) H1 → va_S A s.heap H1 locs1 → W p l e R s m args below meth c H1 locs1 cells slots Q (F0 m (pc + 3) ls (.int r :: rest))) : W p l e R s m args below meth c H locs cells slots Q (F0 m pc ls st0) := by
  refine va_calli (va_runV (As := As) (rest := rest) (g := F0 m pc ls st0) S hM cw ⟨fun a U g mk q => ⟨q.1, gB_blind hX a U g mk q.2⟩, va_recv (ci := ci) (q0 := q0) hB.2.1 hP hcl hrec, fun U hU hW => ⟨rfl, gB_mid hw hX hB hP hS hU hW⟩⟩ rfl hn hl hst (lv_room hrm) hdg hf) hS (fun q _ h => h) (fun q h => h) (fun r v t H1 locs1 ht hvm hp hBv hz hk hS1 => ?_)
  exact kk r v H1 locs1 hp (ht ▸ hBv.1) hS1
theorem g_callSi {post : Int32 → σ → Prop} (S : CallFix p m c cc nL s args Ts own) (hM : Met l y ws rm (va_Pc As (gB D tys Wd X A u)) (va_Qi post (gB D tys Wd X A) A) 0 0 A) (cw : CallB R s args own index y bytes maxL ret ws rm 0 0 k ∧ (Cond.static y).before args s = true) (hw : gW Wd) (hX : gX X) (hB : gB D tys Wd X A u0 s) (hP : va_P D classes (Wd u) H) (hS : va_S A s.heap H locs) (hn : As.length = k) (hl : ls.size = nL) (hst : st0 = As.reverse ++ rest) (hrm : (rest.map fun v => v.category).sum ≤ 8) (hdg : decode cc pc = .ok (.invokestatic index, 3)) (hf : cells ≤ R.cells ∧ slots ≤ R.slots) (kk : ∀ (r : Int32) (v : σ) (H1 : Heap) (locs1 : List Loc), post r v → va_P D classes (Wd v) H1 → va_S A s.heap H1 locs1 → W p l e R s m args below meth c H1 locs1 cells slots Q (F0 m (pc + 3) ls (.int r :: rest))) : W p l e R s m args below meth c H locs cells slots Q (F0 m pc ls st0) := by
  refine va_calli (va_runS (As := As) (rest := rest) (g := F0 m pc ls st0) S hM cw ⟨fun a U g mk q => ⟨q.1, gB_blind hX a U g mk q.2⟩, fun U hU hW => ⟨rfl, gB_mid hw hX hB hP hS hU hW⟩⟩ rfl hn hl hst (lv_room hrm) hdg hf) hS (fun q _ h => h) (fun q h => h) (fun r v t H1 locs1 ht hvm hp hBv hz hk hS1 => ?_)
  exact kk r v H1 locs1 hp (ht ▸ hBv.1) hS1
theorem g_callNi {post : Int32 → σ → Prop} (S : CallFix p m c cc nL s args Ts own) (hM : Met l y ws rm (va_Pc As (gB D tys Wd X A u)) (va_Qi post (gB D tys Wd X A) A) 0 0 A) (cw : va_CN R s args own index y host bytes maxL ret ws rm 0 0 k ∧ (Cond.static y).before args s = true ∧ True) (hw : gW Wd) (hX : gX X) (hB : gB D tys Wd X A u0 s) (hP : va_P D classes (Wd u) H) (hS : va_S A s.heap H locs) (hn : As.length = k) (hl : ls.size = nL) (hst : st0 = As.reverse ++ rest) (hrm : (rest.map fun v => v.category).sum ≤ 8) (hdg : decode cc pc = .ok (.invokestatic index, 3)) (hf : cells ≤ R.cells ∧ slots ≤ R.slots) (kk : ∀ (r : Int32) (v : σ) (H1 : Heap) (locs1 : List Loc), post r v → va_P D classes (Wd v) H1 → va_S A s.heap H1 locs1 → W p l e R s m args below meth c H1 locs1 cells slots Q (F0 m (pc + 3) ls (.int r :: rest))) : W p l e R s m args below meth c H locs cells slots Q (F0 m pc ls st0) := by
  refine va_calli (va_runSN (As := As) (rest := rest) (g := F0 m pc ls st0) S hM cw ⟨fun a U g mk q => ⟨q.1, gB_blind hX a U g mk q.2⟩, fun U hU hW => ⟨rfl, gB_mid hw hX hB hP hS hU hW⟩⟩ rfl hn hl hst (lv_room hrm) hdg hf) hS (fun q _ h => h) (fun q h => h) (fun r v t H1 locs1 ht hvm hp hBv hz hk hS1 => ?_)
  exact kk r v H1 locs1 hp (ht ▸ hBv.1) hS1
theorem g_callVl {post : Int64 → σ → Prop} (S : CallFix p m c cc nL s args Ts own) (hM : Met l y ws rm (va_Pc (.ref b :: As) (gB D tys Wd X A u)) (va_Ql post (gB D tys Wd X A) A) 0 0 A) (cw : CallW R s args own C index y bytes maxL ret ws rm 0 0 k) (hw : gW Wd) (hX : gX X) (hB : gB D tys Wd X A u0 s) (hP : va_P D classes (Wd u) H) (hS : va_S A s.heap H locs) {ci : Nat} {T : u_T} {N : Nat} {fs : List Value} (hcl : classes[ci]? = some (C, T, N)) (q0 : Nat) (hrec : (Wd u)[q0]? = some (b, .inr (ci, fs))) (hn : As.length = k) (hl : ls.size = nL) (hst : st0 = As.reverse ++ .ref b :: rest) (hrm : (rest.map fun v => v.category).sum ≤ 8) (hdg : decode cc pc = .ok (.invokevirtual index, 3)) (hf : cells ≤ R.cells ∧ slots ≤ R.slots) (kk : ∀ (r : Int64) (v : σ) (H1 : Heap) (locs1 : List Loc), post r v → va_P D classes (Wd v) H1 → va_S A s.heap H1 locs1 → W p l e R s m args below meth c H1 locs1 cells slots Q (F0 m (pc + 3) ls (.long r :: rest))) : W p l e R s m args below meth c H locs cells slots Q (F0 m pc ls st0) := by
  refine va_calll (va_runV (As := As) (rest := rest) (g := F0 m pc ls st0) S hM cw ⟨fun a U g mk q => ⟨q.1, gB_blind hX a U g mk q.2⟩, va_recv (ci := ci) (q0 := q0) hB.2.1 hP hcl hrec, fun U hU hW => ⟨rfl, gB_mid hw hX hB hP hS hU hW⟩⟩ rfl hn hl hst (lv_room hrm) hdg hf) hS (fun q _ h => h) (fun q h => h) (fun r v t H1 locs1 ht hvm hp hBv hz hk hS1 => ?_)
  exact kk r v H1 locs1 hp (ht ▸ hBv.1) hS1
theorem g_callSl {post : Int64 → σ → Prop} (S : CallFix p m c cc nL s args Ts own) (hM : Met l y ws rm (va_Pc As (gB D tys Wd X A u)) (va_Ql post (gB D tys Wd X A) A) 0 0 A) (cw : CallB R s args own index y bytes maxL ret ws rm 0 0 k ∧ (Cond.static y).before args s = true) (hw : gW Wd) (hX : gX X) (hB : gB D tys Wd X A u0 s) (hP : va_P D classes (Wd u) H) (hS : va_S A s.heap H locs) (hn : As.length = k) (hl : ls.size = nL) (hst : st0 = As.reverse ++ rest) (hrm : (rest.map fun v => v.category).sum ≤ 8) (hdg : decode cc pc = .ok (.invokestatic index, 3)) (hf : cells ≤ R.cells ∧ slots ≤ R.slots) (kk : ∀ (r : Int64) (v : σ) (H1 : Heap) (locs1 : List Loc), post r v → va_P D classes (Wd v) H1 → va_S A s.heap H1 locs1 → W p l e R s m args below meth c H1 locs1 cells slots Q (F0 m (pc + 3) ls (.long r :: rest))) : W p l e R s m args below meth c H locs cells slots Q (F0 m pc ls st0) := by
  refine va_calll (va_runS (As := As) (rest := rest) (g := F0 m pc ls st0) S hM cw ⟨fun a U g mk q => ⟨q.1, gB_blind hX a U g mk q.2⟩, fun U hU hW => ⟨rfl, gB_mid hw hX hB hP hS hU hW⟩⟩ rfl hn hl hst (lv_room hrm) hdg hf) hS (fun q _ h => h) (fun q h => h) (fun r v t H1 locs1 ht hvm hp hBv hz hk hS1 => ?_)
  exact kk r v H1 locs1 hp (ht ▸ hBv.1) hS1
theorem g_callNl {post : Int64 → σ → Prop} (S : CallFix p m c cc nL s args Ts own) (hM : Met l y ws rm (va_Pc As (gB D tys Wd X A u)) (va_Ql post (gB D tys Wd X A) A) 0 0 A) (cw : va_CN R s args own index y host bytes maxL ret ws rm 0 0 k ∧ (Cond.static y).before args s = true ∧ True) (hw : gW Wd) (hX : gX X) (hB : gB D tys Wd X A u0 s) (hP : va_P D classes (Wd u) H) (hS : va_S A s.heap H locs) (hn : As.length = k) (hl : ls.size = nL) (hst : st0 = As.reverse ++ rest) (hrm : (rest.map fun v => v.category).sum ≤ 8) (hdg : decode cc pc = .ok (.invokestatic index, 3)) (hf : cells ≤ R.cells ∧ slots ≤ R.slots) (kk : ∀ (r : Int64) (v : σ) (H1 : Heap) (locs1 : List Loc), post r v → va_P D classes (Wd v) H1 → va_S A s.heap H1 locs1 → W p l e R s m args below meth c H1 locs1 cells slots Q (F0 m (pc + 3) ls (.long r :: rest))) : W p l e R s m args below meth c H locs cells slots Q (F0 m pc ls st0) := by
  refine va_calll (va_runSN (As := As) (rest := rest) (g := F0 m pc ls st0) S hM cw ⟨fun a U g mk q => ⟨q.1, gB_blind hX a U g mk q.2⟩, fun U hU hW => ⟨rfl, gB_mid hw hX hB hP hS hU hW⟩⟩ rfl hn hl hst (lv_room hrm) hdg hf) hS (fun q _ h => h) (fun q h => h) (fun r v t H1 locs1 ht hvm hp hBv hz hk hS1 => ?_)
  exact kk r v H1 locs1 hp (ht ▸ hBv.1) hS1
theorem g_callVv {post : σ → Prop} (S : CallFix p m c cc nL s args Ts own) (hM : Met l y ws rm (va_Pc (.ref b :: As) (gB D tys Wd X A u)) (va_Qv post (gB D tys Wd X A) A) 0 0 A) (cw : CallW R s args own C index y bytes maxL ret ws rm 0 0 k) (hw : gW Wd) (hX : gX X) (hB : gB D tys Wd X A u0 s) (hP : va_P D classes (Wd u) H) (hS : va_S A s.heap H locs) {ci : Nat} {T : u_T} {N : Nat} {fs : List Value} (hcl : classes[ci]? = some (C, T, N)) (q0 : Nat) (hrec : (Wd u)[q0]? = some (b, .inr (ci, fs))) (hn : As.length = k) (hl : ls.size = nL) (hst : st0 = As.reverse ++ .ref b :: rest) (hrm : (rest.map fun v => v.category).sum ≤ 8) (hdg : decode cc pc = .ok (.invokevirtual index, 3)) (hf : cells ≤ R.cells ∧ slots ≤ R.slots) (kk : ∀ (v : σ) (H1 : Heap) (locs1 : List Loc), post v → va_P D classes (Wd v) H1 → va_S A s.heap H1 locs1 → W p l e R s m args below meth c H1 locs1 cells slots Q (F0 m (pc + 3) ls (rest))) : W p l e R s m args below meth c H locs cells slots Q (F0 m pc ls st0) := by
  refine va_callv (va_runV (As := As) (rest := rest) (g := F0 m pc ls st0) S hM cw ⟨fun a U g mk q => ⟨q.1, gB_blind hX a U g mk q.2⟩, va_recv (ci := ci) (q0 := q0) hB.2.1 hP hcl hrec, fun U hU hW => ⟨rfl, gB_mid hw hX hB hP hS hU hW⟩⟩ rfl hn hl hst (lv_room hrm) hdg hf) hS (fun q _ h => h) (fun q h => h) (fun v t H1 locs1 ht hvm hp hBv hz hk hS1 => ?_)
  exact kk v H1 locs1 hp (ht ▸ hBv.1) hS1
theorem g_callSv {post : σ → Prop} (S : CallFix p m c cc nL s args Ts own) (hM : Met l y ws rm (va_Pc As (gB D tys Wd X A u)) (va_Qv post (gB D tys Wd X A) A) 0 0 A) (cw : CallB R s args own index y bytes maxL ret ws rm 0 0 k ∧ (Cond.static y).before args s = true) (hw : gW Wd) (hX : gX X) (hB : gB D tys Wd X A u0 s) (hP : va_P D classes (Wd u) H) (hS : va_S A s.heap H locs) (hn : As.length = k) (hl : ls.size = nL) (hst : st0 = As.reverse ++ rest) (hrm : (rest.map fun v => v.category).sum ≤ 8) (hdg : decode cc pc = .ok (.invokestatic index, 3)) (hf : cells ≤ R.cells ∧ slots ≤ R.slots) (kk : ∀ (v : σ) (H1 : Heap) (locs1 : List Loc), post v → va_P D classes (Wd v) H1 → va_S A s.heap H1 locs1 → W p l e R s m args below meth c H1 locs1 cells slots Q (F0 m (pc + 3) ls (rest))) : W p l e R s m args below meth c H locs cells slots Q (F0 m pc ls st0) := by
  refine va_callv (va_runS (As := As) (rest := rest) (g := F0 m pc ls st0) S hM cw ⟨fun a U g mk q => ⟨q.1, gB_blind hX a U g mk q.2⟩, fun U hU hW => ⟨rfl, gB_mid hw hX hB hP hS hU hW⟩⟩ rfl hn hl hst (lv_room hrm) hdg hf) hS (fun q _ h => h) (fun q h => h) (fun v t H1 locs1 ht hvm hp hBv hz hk hS1 => ?_)
  exact kk v H1 locs1 hp (ht ▸ hBv.1) hS1
theorem g_callNv {post : σ → Prop} (S : CallFix p m c cc nL s args Ts own) (hM : Met l y ws rm (va_Pc As (gB D tys Wd X A u)) (va_Qv post (gB D tys Wd X A) A) 0 0 A) (cw : va_CN R s args own index y host bytes maxL ret ws rm 0 0 k ∧ (Cond.static y).before args s = true ∧ True) (hw : gW Wd) (hX : gX X) (hB : gB D tys Wd X A u0 s) (hP : va_P D classes (Wd u) H) (hS : va_S A s.heap H locs) (hn : As.length = k) (hl : ls.size = nL) (hst : st0 = As.reverse ++ rest) (hrm : (rest.map fun v => v.category).sum ≤ 8) (hdg : decode cc pc = .ok (.invokestatic index, 3)) (hf : cells ≤ R.cells ∧ slots ≤ R.slots) (kk : ∀ (v : σ) (H1 : Heap) (locs1 : List Loc), post v → va_P D classes (Wd v) H1 → va_S A s.heap H1 locs1 → W p l e R s m args below meth c H1 locs1 cells slots Q (F0 m (pc + 3) ls (rest))) : W p l e R s m args below meth c H locs cells slots Q (F0 m pc ls st0) := by
  refine va_callv (va_runSN (As := As) (rest := rest) (g := F0 m pc ls st0) S hM cw ⟨fun a U g mk q => ⟨q.1, gB_blind hX a U g mk q.2⟩, fun U hU hW => ⟨rfl, gB_mid hw hX hB hP hS hU hW⟩⟩ rfl hn hl hst (lv_room hrm) hdg hf) hS (fun q _ h => h) (fun q h => h) (fun v t H1 locs1 ht hvm hp hBv hz hk hS1 => ?_)
  exact kk v H1 locs1 hp (ht ▸ hBv.1) hS1
theorem g_callVq {post : Option Nat → σ → Prop} (S : CallFix p m c cc nL s args Ts own) (hM : Met l y ws rm (va_Pc (.ref b :: As) (gB D tys Wd X A u)) (va_Qq post (gB D tys Wd X A) A) 0 0 A) (cw : CallW R s args own C index y bytes maxL ret ws rm 0 0 k) (hw : gW Wd) (hX : gX X) (hB : gB D tys Wd X A u0 s) (hP : va_P D classes (Wd u) H) (hS : va_S A s.heap H locs) {ci : Nat} {T : u_T} {N : Nat} {fs : List Value} (hcl : classes[ci]? = some (C, T, N)) (q0 : Nat) (hrec : (Wd u)[q0]? = some (b, .inr (ci, fs))) (hn : As.length = k) (hl : ls.size = nL) (hst : st0 = As.reverse ++ .ref b :: rest) (hrm : (rest.map fun v => v.category).sum ≤ 8) (hdg : decode cc pc = .ok (.invokevirtual index, 3)) (hf : cells ≤ R.cells ∧ slots ≤ R.slots) (kk : ∀ (r : Option Nat) (v : σ) (H1 : Heap) (locs1 : List Loc), post r v → va_P D classes (Wd v) H1 → va_S A s.heap H1 locs1 → W p l e R s m args below meth c H1 locs1 cells slots Q (F0 m (pc + 3) ls (va_rf r :: rest))) : W p l e R s m args below meth c H locs cells slots Q (F0 m pc ls st0) := by
  refine va_callq (va_runV (As := As) (rest := rest) (g := F0 m pc ls st0) S hM cw ⟨fun a U g mk q => ⟨q.1, gB_blind hX a U g mk q.2⟩, va_recv (ci := ci) (q0 := q0) hB.2.1 hP hcl hrec, fun U hU hW => ⟨rfl, gB_mid hw hX hB hP hS hU hW⟩⟩ rfl hn hl hst (lv_room hrm) hdg hf) hS (fun q _ h => h) (fun q h => h) (fun r v t H1 locs1 ht hvm hp hBv hz hk hS1 => ?_)
  exact kk r v H1 locs1 hp (ht ▸ hBv.1) hS1
theorem g_callSq {post : Option Nat → σ → Prop} (S : CallFix p m c cc nL s args Ts own) (hM : Met l y ws rm (va_Pc As (gB D tys Wd X A u)) (va_Qq post (gB D tys Wd X A) A) 0 0 A) (cw : CallB R s args own index y bytes maxL ret ws rm 0 0 k ∧ (Cond.static y).before args s = true) (hw : gW Wd) (hX : gX X) (hB : gB D tys Wd X A u0 s) (hP : va_P D classes (Wd u) H) (hS : va_S A s.heap H locs) (hn : As.length = k) (hl : ls.size = nL) (hst : st0 = As.reverse ++ rest) (hrm : (rest.map fun v => v.category).sum ≤ 8) (hdg : decode cc pc = .ok (.invokestatic index, 3)) (hf : cells ≤ R.cells ∧ slots ≤ R.slots) (kk : ∀ (r : Option Nat) (v : σ) (H1 : Heap) (locs1 : List Loc), post r v → va_P D classes (Wd v) H1 → va_S A s.heap H1 locs1 → W p l e R s m args below meth c H1 locs1 cells slots Q (F0 m (pc + 3) ls (va_rf r :: rest))) : W p l e R s m args below meth c H locs cells slots Q (F0 m pc ls st0) := by
  refine va_callq (va_runS (As := As) (rest := rest) (g := F0 m pc ls st0) S hM cw ⟨fun a U g mk q => ⟨q.1, gB_blind hX a U g mk q.2⟩, fun U hU hW => ⟨rfl, gB_mid hw hX hB hP hS hU hW⟩⟩ rfl hn hl hst (lv_room hrm) hdg hf) hS (fun q _ h => h) (fun q h => h) (fun r v t H1 locs1 ht hvm hp hBv hz hk hS1 => ?_)
  exact kk r v H1 locs1 hp (ht ▸ hBv.1) hS1
theorem g_callNq {post : Option Nat → σ → Prop} (S : CallFix p m c cc nL s args Ts own) (hM : Met l y ws rm (va_Pc As (gB D tys Wd X A u)) (va_Qq post (gB D tys Wd X A) A) 0 0 A) (cw : va_CN R s args own index y host bytes maxL ret ws rm 0 0 k ∧ (Cond.static y).before args s = true ∧ True) (hw : gW Wd) (hX : gX X) (hB : gB D tys Wd X A u0 s) (hP : va_P D classes (Wd u) H) (hS : va_S A s.heap H locs) (hn : As.length = k) (hl : ls.size = nL) (hst : st0 = As.reverse ++ rest) (hrm : (rest.map fun v => v.category).sum ≤ 8) (hdg : decode cc pc = .ok (.invokestatic index, 3)) (hf : cells ≤ R.cells ∧ slots ≤ R.slots) (kk : ∀ (r : Option Nat) (v : σ) (H1 : Heap) (locs1 : List Loc), post r v → va_P D classes (Wd v) H1 → va_S A s.heap H1 locs1 → W p l e R s m args below meth c H1 locs1 cells slots Q (F0 m (pc + 3) ls (va_rf r :: rest))) : W p l e R s m args below meth c H locs cells slots Q (F0 m pc ls st0) := by
  refine va_callq (va_runSN (As := As) (rest := rest) (g := F0 m pc ls st0) S hM cw ⟨fun a U g mk q => ⟨q.1, gB_blind hX a U g mk q.2⟩, fun U hU hW => ⟨rfl, gB_mid hw hX hB hP hS hU hW⟩⟩ rfl hn hl hst (lv_room hrm) hdg hf) hS (fun q _ h => h) (fun q h => h) (fun r v t H1 locs1 ht hvm hp hBv hz hk hS1 => ?_)
  exact kk r v H1 locs1 hp (ht ▸ hBv.1) hS1
end TC
theorem gd_key {c0 : Cond} : ∀ w ∈ ALL, w ∈ c0 :: ALL ∧ ((w.onTables && w.keeps) = true ∨ ∃ ty, w = .arrayClass ty) := fun w h => ⟨List.mem_cons_of_mem _ h, (ALL_ok w h).2⟩
theorem gd_V {c0 : Cond} {own C : String} {idx k : Nat} {y : MethodName} {b : ByteArray} {r : Option FieldType} (h1 : Cond.methodLink own idx y ∈ ALL) (h2 : Cond.instanceMethod y ∈ ALL) (h3 : Cond.selects C y y ∈ ALL) (h4 : Cond.initialized C ∈ ALL) (h5 : Cond.code y b k r ∈ ALL) : GoodIn (c0 :: ALL) (wsV own idx C y (.code y b k r :: ALL)) := by
  intro w hw
  simp only [wsV, List.cons_append, List.nil_append, List.mem_cons] at hw
  rcases hw with rfl | rfl | rfl | rfl | rfl | hw
  · exact gd_key _ h1
  · exact gd_key _ h2
  · exact gd_key _ h3
  · exact gd_key _ h4
  · exact gd_key _ h5
  · exact gd_key _ hw
theorem gd_S {c0 : Cond} {own : String} {idx k : Nat} {y : MethodName} {b : ByteArray} {r : Option FieldType} (h1 : Cond.methodLink own idx y ∈ ALL) (h2 : Cond.static y ∈ ALL) (h4 : Cond.initialized own ∈ ALL) (h5 : Cond.code y b k r ∈ ALL) : GoodIn (c0 :: ALL) (wsS own idx y (.code y b k r :: ALL)) := by
  intro w hw
  simp only [wsS, List.cons_append, List.nil_append, List.mem_cons] at hw
  rcases hw with rfl | rfl | rfl | rfl | hw
  · exact gd_key _ h1
  · exact gd_key _ h2
  · exact gd_key _ h4
  · exact gd_key _ h5
  · exact gd_key _ hw
theorem gd_C {c0 : Cond} {k : Nat} {y : MethodName} {b : ByteArray} {r : Option FieldType} (h5 : Cond.code y b k r ∈ ALL) : GoodIn (c0 :: ALL) (.code y b k r :: ALL) := by
  intro w hw
  rcases List.mem_cons.mp hw with rfl | hw
  · exact gd_key _ h5
  · exact gd_key _ hw
/-- a truth as an int -/
noncomputable def bI (q : Prop) : Int32 := @ite _ q (Classical.propDecidable q) 1 0
theorem bI_t {q : Prop} (h : q) : bI q = 1 := if_pos h
theorem bI_f {q : Prop} (h : ¬ q) : bI q = 0 := if_neg h
theorem bI_c {q r : Prop} (h : q ↔ r) : bI q = bI r := by rw [propext h]
theorem bI_or (q : Prop) : bI q = 1 ∨ bI q = 0 := by
  by_cases h : q
  · exact Or.inl (bI_t h)
  · exact Or.inr (bI_f h)
theorem bI_n (q : Prop) : narrow .boolean (.int (bI q)) = .int (bI q) := by
  rcases bI_or q with h | h <;> rw [h] <;> rfl
theorem bI_0 {q : Prop} : bI q = 0 ↔ ¬ q := by
  by_cases h : q
  · rw [bI_t h]; exact ⟨fun z => absurd z (by decide), fun z => absurd h z⟩
  · rw [bI_f h]; exact ⟨fun _ => h, fun _ => rfl⟩
theorem bI_1 {q : Prop} (c : ¬ bI q = 0) : q := Classical.byContradiction (fun h => c (bI_0.mpr h))
/-- a choice between two ints -/
noncomputable def cI {α : Type} (q : Prop) (a b : α) : α := @ite _ q (Classical.propDecidable q) a b
theorem cI_t {α : Type} {q : Prop} {a b : α} (h : q) : cI q a b = a := if_pos h
theorem cI_f {α : Type} {q : Prop} {a b : α} (h : ¬ q) : cI q a b = b := if_neg h
