set_option maxHeartbeats 4000000 in
set_option maxRecDepth 100000 in
theorem whole_start {p : Program} {e : Env} {s : State} {m : MethodId} {below : List Frame} {meth : Method} {c : Code} (l : Launch) {b L : Nat} {xs : Nat → Int32} (hL : L ≤ 4609) (C0 : lw_At p s m meth c b L xs) : W p l e room_1 s m #[Value.ref b] below meth c s.heap [] 0 0 (lw_Z below #[Value.ref b] s) (entryFrame m ([Value.ref b] : List Value).toArray 4) := by
  have C1 := C0
  obtain ⟨hx, hb, hr, hml, hown, hts, hX, hbl, hlocks, hgv⟩ := C0
  have hown : s.vm.findClass R_L = some m.cls := hown
  have hA : ∀ q : Nat, s.heap.size ≤ q → (fun q : Nat => s.heap.size ≤ q) q := fun _ h => h
  have hbA : ¬ (fun q : Nat => s.heap.size ≤ q) b := Nat.not_le.mpr hbl
  have hnA : ∀ a : Nat, a < s.heap.size → ¬ (fun q : Nat => s.heap.size ≤ q) a := fun a h => Nat.not_le.mpr h
  -- the statics
  have hf := flat_of_before _ hgv
  have harr : (Cond.arrayOf (.static "TwinTables$Bytes" "FOUR_STEPS" "[I") .int).before #[Value.ref b] s = true := hf _ (by decide +kernel)
  have hlen : (Term.length (.static "TwinTables$Bytes" "FOUR_STEPS" "[I")).eval #[Value.ref b] s none [] s = some (.int (Int32.ofNat 16)) := va_eqt (hf (.eq (.length (.static "TwinTables$Bytes" "FOUR_STEPS" "[I")) (.int 16)) (by decide +kernel))
  have hel : ∀ j : Nat, j < 16 → (Term.elem (.static "TwinTables$Bytes" "FOUR_STEPS" "[I") (.int (Int32.ofNat j))).eval #[Value.ref b] s none [] s = some (.int (four j)) := by
    have hq : ∀ j, j < 16 → Cond.eq (.elem (.static "TwinTables$Bytes" "FOUR_STEPS" "[I") (.int (Int32.ofNat j))) (.int (four j)) ∈ flatC (Jvm.Cond.and given_1 narrow_1) := by decide +kernel
    intro j hj
    exact va_eqt (hf _ (hq j hj))
  obtain ⟨tb, htb, hTb⟩ := va_Tof (f := fun j => .int (four j)) (A := fun q : Nat => s.heap.size ≤ q) (by decide) harr hlen hel hnA
  have hZ : va_Z "TwinTables$Bytes" "FOUR_STEPS" "[I" (.ref tb) (fun q : Nat => s.heap.size ≤ q) s s.heap := va_Zref (hts (.laysStatic "TwinTables$Bytes" "FOUR_STEPS" "[I") (by decide +kernel)) (hts (.initialized "TwinTables$Bytes") (by decide +kernel)) htb hnA
  have hXs : cX tb (fun q : Nat => s.heap.size ≤ q) s s.heap := ⟨hZ, hTb, va_Nw.of rfl (hts (.fieldLinkNest R_T 84 "TwinTables$Copy" "index" "I" "TwinTables") (by decide +kernel)), va_Nw.of rfl (hts (.methodLinkNest R_C 132 y_T_guidTail "TwinTables") (by decide +kernel))⟩
  -- the classes
  obtain ⟨c0, iS0, hKn0⟩ := u_known (C := R_T) (T := F_T) (N := 4) (n := 4) hts (fun w h => (ALL_in w (fi_T w h)).1) (hts _ (ALL_in _ m_36).1)
  obtain ⟨c1, iS1, hKn1⟩ := u_known (C := R_B) (T := F_B) (N := 1) (n := 1) hts (fun w h => (ALL_in w (fi_B w h)).1) (hts _ (ALL_in _ m_44).1)
  obtain ⟨c2, iS2, hKn2⟩ := u_known (C := R_C) (T := F_C) (N := 8) (n := 8) hts (fun w h => (ALL_in w (fi_C w h)).1) (hts _ (ALL_in _ m_55).1)
  obtain ⟨c3, iS3, hKn3⟩ := u_known (C := R_M) (T := F_M) (N := 4) (n := 4) hts (fun w h => (ALL_in w (fi_M w h)).1) (hts _ (ALL_in _ m_399).1)
  obtain ⟨dC, dI, hKc⟩ : ∃ (dC : Nat → ClassId) (dI : Nat → Nat → Nat), ∀ (k : Nat) (q : vw_C), classes[k]? = some q → u_Kn s q.1 q.2.1 q.2.2 (dC k) (dI k) := by
    refine ⟨fun k => if k = 0 then c0 else if k = 1 then c1 else if k = 2 then c2 else c3, fun k => if k = 0 then iS0 else if k = 1 then iS1 else if k = 2 then iS2 else iS3, ?_⟩
    intro k q hq
    match k, hq with
    | 0, hq => cases hq; exact hKn0
    | 1, hq => cases hq; exact hKn1
    | 2, hq => cases hq; exact hKn2
    | 3, hq => cases hq; exact hKn3
    | k + 4, hq => simp [classes] at hq
  have hS : va_S (fun q : Nat => s.heap.size ≤ q) s.heap s.heap [] := va_S.rf
  have hK : va_K (dC, dI) classes [] s := ⟨hKc, fun k q h => by simp at h⟩
  have hP : va_P (dC, dI) classes [] s.heap := fun k q h => by simp at h
  have hD : va_D (fun q : Nat => s.heap.size ≤ q) [] := ⟨fun i j p q h => by simp at h, fun k q h => by simp at h⟩
  have hl := lv_entry ([.ref b]) (n := 4) (Nat.le_of_ble_eq_true rfl)
  rw [lg_entry_eq]
  generalize (lg_sl ([.ref b]) ++ List.replicate (4 - (lg_sl ([.ref b])).length) Slot.unset).toArray = ls at hl ⊢
  have hl : lv_has ls 4 [(0, .ref b)] := hl
  have hN1 := (nOf_le (cl0 L xs)).1
  have hN2 := (nOf_le (cl0 L xs)).2
  refine va_new (ci := 0) (fs := [.int 0, .null, .null, .null]) (C := R_T) (T := F_T) (N := 4) hx hb hts (fun w h => (ALL_in w (fi_T w h)).1) ft_T ft_T_ok hown (hts _ (ALL_in _ m_35).1) (hts _ (ALL_in _ m_36).1) (hts _ (ALL_in _ m_30).1) hK hP hD hS hA rfl (fun j hj => by rcases (show j = 0 ∨ j = 1 ∨ j = 2 ∨ j = 3 by omega) with rfl | rfl | rfl | rfl <;> rfl) (Nat.le_of_ble_eq_true rfl) (Nat.le_of_ble_eq_true rfl) d_L_law_0 (fun v1 H hP hD hS => ?_)
  have hP : va_P (dC, dI) classes ([(v1, .inr (0, [.int (nI 0), .null, .null, .null]))]) H := hP
  have hD : va_D (fun q : Nat => s.heap.size ≤ q) ([(v1, .inr (0, [.int (nI 0), .null, .null, .null]))]) := hD
  refine W.widen (k := 1) (n := 4) (Nat.le_of_ble_eq_true rfl) (Nat.le_of_ble_eq_true rfl) ?_
  refine lv_dup hx hb d_L_law_3 rfl ?_
  refine lv_aload_n hx hb d_L_law_4 rfl (lv_at hl 0 rfl) ?_
  refine lv_iconst (v := nI 0) hx hb d_L_law_5 rfl ?_
  refine W.callR (W.runS (As := [.ref b, .int (nI 0)]) (rest := [.ref v1, .ref v1]) (g := F0 m 6 ls [.int (nI 0), .ref b, .ref v1, .ref v1]) ⟨hx, hb, hml, hown, hts⟩ (c_L_cell l b L xs (by omega)) (cwS 2 hts (gdL_S m_395 m_396 m_29 m_397) rfl rfl rfl hd_L_cell ⟨Nat.le_of_ble_eq_true rfl, Nat.le_of_ble_eq_true rfl⟩) ⟨fun a U g mk q => ⟨q.1, va_X.moved (u := U) (U := U.calling g mk a) (Vm.Alike.refl U.vm) q.2⟩, fun U hU hW => ⟨rfl, by show va_X b L xs U U.heap; rw [hU]; exact va_X.moved hW.alike (hX.kept (hS.2.1 b hbl hbA))⟩⟩ rfl rfl hl.1 rfl (lv_room (Nat.le_of_ble_eq_true rfl)) d_L_law_6 ⟨Nat.le_of_ble_eq_true rfl, Nat.le_of_ble_eq_true rfl⟩) ?_
  refine W.eq (g2 := F0 m 9 ls [.int (cl0 L xs), .ref v1, .ref v1]) rfl ?_
  have hPc := hP.sub (ws' := [(v1, .inr (0, [.int (nI 0), .null, .null, .null]))]) [0] rfl
  have hDc := hD.sub (ws' := [(v1, .inr (0, [.int (nI 0), .null, .null, .null]))]) [0] (by decide) rfl
  have hKe := hK.sub (tys' := []) [] rfl
  have hFc := va_free (wc := [(v1, .inr (0, [.int (nI 0), .null, .null, .null]))]) hD hS hA [0] rfl
  refine va_callv (va_runI (As := [.int (cl0 L xs)]) (rest := [.ref v1]) ⟨hx, hb, hml, hown, hts⟩ (c_T_init l (dC, dI) (va_A [(v1, .inr (0, [.int (nI 0), .null, .null, .null]))] H.size) v1 H.size (fun _ h => Or.inr h) (cl0 L xs)) (cwI 1 hts (gdL_C m_39) rfl rfl rfl (hts _ (ALL_in _ m_30).1) (hts _ (ALL_in _ m_37).1) (hts _ (ALL_in _ m_38).1) rfl hd_T_init.2 ⟨Nat.le_of_ble_eq_true rfl, Nat.le_of_ble_eq_true rfl⟩) ⟨fun a U g mk q => by obtain ⟨q0, q1, qP, qK, qD⟩ := q; exact ⟨q0, q1, qP, va_K.moved (u := U) (U := U.calling g mk a) (Vm.Alike.refl U.vm) qK, qD⟩, fun U hU hW => ⟨rfl, by rw [hU], by rw [hU]; exact hPc, va_K.moved hW.alike hKe, hDc.self⟩⟩ rfl rfl hl.1 rfl (lv_room (Nat.le_of_ble_eq_true rfl)) d_L_law_9 ⟨Nat.le_of_ble_eq_true rfl, Nat.le_of_ble_eq_true rfl⟩) hS (fun q _ h => hFc q h) hFc (fun u t H1 locs ht hvm hw hB hz1 hk1 hS => ?_)
  obtain ⟨h, cA⟩ := u
  obtain ⟨e0, hP1, hK1, hD1⟩ := hB
  dsimp only at e0 hP1 hK1 hD1
  rw [ht] at hP1
  have hK1 := va_K.moved hvm.symm hK1
  obtain ⟨hPn, hDn⟩ := va_join (wr := []) (w1 := cW h cA (nOf (cl0 L xs)) (fun _ => 0)) hP hD [0] [] rfl rfl (by decide) (by decide) hk1 hFc hP1 hD1
  have hK := (hK.sub (tys' := []) [] rfl).app hK1
  generalize H1 = H at hPn hS ⊢
  subst e0
  have hP : va_P (dC, dI) classes (cW h cA (nOf (cl0 L xs)) (fun _ => 0)) H := hPn
  have hD : va_D (fun q : Nat => s.heap.size ≤ q) (cW h cA (nOf (cl0 L xs)) (fun _ => 0)) := hDn
  have hK : va_K (dC, dI) classes [(cA, .byte)] s := hK
  refine W.widen (k := 5) (n := 12309) (Nat.le_of_ble_eq_true rfl) (Nat.le_of_ble_eq_true rfl) ?_
  refine lv_astore_n (lv' := [(1, .ref (h 0)), (0, .ref b)]) hx hb d_L_law_12 rfl hl (by decide) rfl (fun ls hl => ?_)
  refine va_new (ci := 3) (fs := [.int 0, .null, .null, .null]) (C := R_M) (T := F_M) (N := 4) hx hb hts (fun w h => (ALL_in w (fi_M w h)).1) ft_M ft_M_ok hown (hts _ (ALL_in _ m_398).1) (hts _ (ALL_in _ m_399).1) (hts _ (ALL_in _ m_33).1) hK hP hD hS hA rfl (fun j hj => by rcases (show j = 0 ∨ j = 1 ∨ j = 2 ∨ j = 3 by omega) with rfl | rfl | rfl | rfl <;> rfl) (Nat.le_of_ble_eq_true rfl) (Nat.le_of_ble_eq_true rfl) d_L_law_13 (fun v2 H hP hD hS => ?_)
  have hP : va_P (dC, dI) classes (cW h cA (nOf (cl0 L xs)) (fun _ => 0) ++ [(v2, .inr (3, [.int (nI 0), .null, .null, .null]))]) H := hP
  have hD : va_D (fun q : Nat => s.heap.size ≤ q) (cW h cA (nOf (cl0 L xs)) (fun _ => 0) ++ [(v2, .inr (3, [.int (nI 0), .null, .null, .null]))]) := hD
  refine W.widen (k := 6) (n := 12313) (Nat.le_of_ble_eq_true rfl) (Nat.le_of_ble_eq_true rfl) ?_
  refine lv_dup hx hb d_L_law_16 rfl ?_
  refine lv_aload_n hx hb d_L_law_17 rfl (lv_at hl 1 rfl) ?_
  refine lv_iconst (v := nI 0) hx hb d_L_law_18 rfl ?_
  refine W.callR (W.runS (As := [.ref b, .int (nI 0)]) (rest := [.ref v2, .ref v2]) (g := F0 m 19 ls [.int (nI 0), .ref b, .ref v2, .ref v2]) ⟨hx, hb, hml, hown, hts⟩ (c_L_cell l b L xs (by omega)) (cwS 2 hts (gdL_S m_395 m_396 m_29 m_397) rfl rfl rfl hd_L_cell ⟨Nat.le_of_ble_eq_true rfl, Nat.le_of_ble_eq_true rfl⟩) ⟨fun a U g mk q => ⟨q.1, va_X.moved (u := U) (U := U.calling g mk a) (Vm.Alike.refl U.vm) q.2⟩, fun U hU hW => ⟨rfl, by show va_X b L xs U U.heap; rw [hU]; exact va_X.moved hW.alike (hX.kept (hS.2.1 b hbl hbA))⟩⟩ rfl rfl hl.1 rfl (lv_room (Nat.le_of_ble_eq_true rfl)) d_L_law_19 ⟨Nat.le_of_ble_eq_true rfl, Nat.le_of_ble_eq_true rfl⟩) ?_
  refine W.eq (g2 := F0 m 22 ls [.int (cl0 L xs), .ref v2, .ref v2]) rfl ?_
  have hPc := hP.sub (ws' := [(v2, .inr (3, [.int (nI 0), .null, .null, .null]))]) [5] rfl
  have hDc := hD.sub (ws' := [(v2, .inr (3, [.int (nI 0), .null, .null, .null]))]) [5] (by decide) rfl
  have hKe := hK.sub (tys' := []) [] rfl
  have hFc := va_free (wc := [(v2, .inr (3, [.int (nI 0), .null, .null, .null]))]) hD hS hA [5] rfl
  refine va_callv (va_runI (As := [.int (cl0 L xs)]) (rest := [.ref v2]) ⟨hx, hb, hml, hown, hts⟩ (c_M_init l (dC, dI) (va_A [(v2, .inr (3, [.int (nI 0), .null, .null, .null]))] H.size) v2 H.size (fun _ h => Or.inr h) (cl0 L xs)) (cwI 1 hts (gdL_C m_402) rfl rfl rfl (hts _ (ALL_in _ m_33).1) (hts _ (ALL_in _ m_400).1) (hts _ (ALL_in _ m_401).1) rfl hd_M_init.2 ⟨Nat.le_of_ble_eq_true rfl, Nat.le_of_ble_eq_true rfl⟩) ⟨fun a U g mk q => by obtain ⟨q0, q1, qP, qK, qD⟩ := q; exact ⟨q0, q1, qP, va_K.moved (u := U) (U := U.calling g mk a) (Vm.Alike.refl U.vm) qK, qD⟩, fun U hU hW => ⟨rfl, by rw [hU], by rw [hU]; exact hPc, va_K.moved hW.alike hKe, hDc.self⟩⟩ rfl rfl hl.1 rfl (lv_room (Nat.le_of_ble_eq_true rfl)) d_L_law_22 ⟨Nat.le_of_ble_eq_true rfl, Nat.le_of_ble_eq_true rfl⟩) hS (fun q _ h => hFc q h) hFc (fun u t H1 locs ht hvm hw hB hz1 hk1 hS => ?_)
  obtain ⟨k, cI⟩ := u
  obtain ⟨e0, hP1, hK1, hD1⟩ := hB
  dsimp only at e0 hP1 hK1 hD1
  rw [ht] at hP1
  have hK1 := va_K.moved hvm.symm hK1
  obtain ⟨hPn, hDn⟩ := va_join (wr := cW h cA (nOf (cl0 L xs)) (fun _ => 0)) (w1 := mW k cI (nOf (cl0 L xs)) (mU (fun _ => 0) (fun _ => 0) (fun _ => 0))) hP hD [5] [0, 1, 2, 3, 4] rfl rfl (by decide) (by decide) hk1 hFc hP1 hD1
  have hK := (hK.sub (tys' := [(cA, .byte)]) [0] rfl).app hK1
  generalize H1 = H at hPn hS ⊢
  subst e0
  have hK : va_K (dC, dI) classes [(cA, .byte), (cI 1, .int), (cI 2, .int), (cI 3, .int)] s := hK
  refine W.widen (k := 9) (n := 25641) (Nat.le_of_ble_eq_true rfl) (Nat.le_of_ble_eq_true rfl) ?_
  refine lv_astore_n (lv' := [(2, .ref (k 0)), (1, .ref (h 0)), (0, .ref b)]) hx hb d_L_law_25 rfl hl (by decide) rfl (fun ls hl => ?_)
  refine lv_iconst (v := nI 1) hx hb d_L_law_26 rfl ?_
  refine lv_istore_n (lv' := [(3, .int (nI 1)), (2, .ref (k 0)), (1, .ref (h 0)), (0, .ref b)]) hx hb d_L_law_27 rfl hl (by decide) rfl (fun ls hl => ?_)
  exact law_loop hL C1 hN1 hN2 hK hXs (L + 10) 1 (fun _ => 0) (fun _ => 0) (fun _ => 0) _ _ ls (by omega) (by omega) hPn hDn hS hl
