/-! the law's own wrappers: a call's answer into the row, or its exception as a number -/
theorem met_of_vx {l : Launch} {y : MethodName} {ws : List Cond} {rm : Room} {Pc : Array Value → State → Prop} {Qc : Array Value → State → Outcome → State → Prop} {mc ms : Nat} {free : Addr → Prop} (h : vx_Met l y ws rm Pc Qc (fun _ _ _ => False) mc ms free) : Met l y ws rm Pc Qc mc ms free := by
  intro p e ha hc hk s m args below hf happ hP hK
  obtain ⟨n, oc, h1, h2, h3, h4⟩ := h p e ha hc hk s m args below hf happ hP hK
  rcases h4 with h4 | ⟨q, _, E, ce, L, hx, _⟩
  · exact ⟨n, oc, h1, h2, h3, h4⟩
  · exact hx.elim
/-- the row of one long -/
abbrev oA (ho : Nat) (cA : ClassId) (f : Nat → Int64) : va_W := [(ho, .inl (cA, 1, .inr (.inl f)))]
def OL (D : va_G) (h0 : Nat) (P Qv G : Int32) (ho : Nat) (cA : ClassId) (f : Nat → Int64) (U : State) : Prop := OX D h0 P Qv G U ∧ va_P D classes (oA ho cA f) U.heap ∧ va_K D classes [(cA, .long)] U ∧ va_Nc ISE IAE U
theorem OL_B {D : va_G} {h0 : Nat} {P Qv G : Int32} {ho : Nat} {cA : ClassId} {f : Nat → Int64} : zB (OL D h0 P Qv G ho cA f) := fun U g mk a ⟨h1, h2, h3, h4⟩ => ⟨OX_B U g mk a h1, h2, va_K.moved (u := U) (U := U.calling g mk a) (Vm.Alike.refl U.vm) h3, va_Nc.moved (u := U) (U := U.calling g mk a) (Vm.Alike.refl U.vm) h4⟩
theorem OL_at {D : va_G} {h0 : Nat} {P Qv G : Int32} {ho : Nat} {cA : ClassId} {f : Nat → Int64} {s : State} {H : Heap} (hP : va_P D classes (oX h0 P Qv G) H) (hO : va_P D classes (oA ho cA f) H) (hK : va_K D classes [(cA, .long)] s) (hT : TW s) (hN : va_Nc ISE IAE s) (hk : ∀ q : Nat, q < s.heap.size → H[q]? = s.heap[q]?) : ∀ U : State, U.heap = H → s.WarmedH U.vm → OL D h0 P Qv G ho cA f U :=
  fun U hU hW => ⟨OX_at hP hK hT hk U hU hW, by rw [hU]; exact hO, va_K.moved hW.alike hK, va_Nc.moved hW.alike hN⟩
/-- the answer is v; what was there is as it was -/
def zN (v : Option Value) : Array Value → State → Outcome → State → Prop := fun _ st oc t => oc = .returned v ∧ st.heap.size ≤ t.heap.size ∧ ∀ q : Nat, q < st.heap.size → t.heap[q]? = st.heap[q]?
set_option maxHeartbeats 4000000 in
set_option maxRecDepth 100000 in
theorem c_L_product_ok (l : Launch) (D : va_G) (h0 pp qq gg : Nat) (ho : Nat) (cA : ClassId) (f : Nat → Int64) (G : grp pp qq gg) (aa bb : Nat) (h1 : aa < pp) (h2 : bb < pp) : Met l y_L_product (k_L_product :: wall) { frames := 8, cells := 0, slots := 0, locals := 130 } (zP [.ref (h0), .int (nI (aa)), .int (nI (bb)), .ref (ho)] (OL D h0 (nI (pp)) (nI (qq)) (nI (gg)) ho cA f)) (zW (some (.int (nI (0)))) D (oA ho cA (vp_updL f (nI (0)).toNatClampNeg (lN (aa * bb % pp)))) ho) 0 0 (fun q => q = ho) := by
  refine met_of_vx (vx_ofWH (cc := b_L_product) (maxL := 5) (ret := (some .int)) (by decide) rfl ?_)
  intro p e s m args below meth c s₁ B hml hv
  obtain ⟨hv, ⟨hP, hK, hT⟩, hO, hKl, hN⟩ := hv
  subst hv
  have hx := B.exec
  have hb := B.bytes
  have hr := B.returns
  have hts := atoms_spec (ws := k_L_product :: wall) B.pre
  have hw : ∀ w ∈ wall, w.before _ s = true := fun w h => hts w (List.mem_cons_of_mem _ h)
  have hown : s.vm.findClass R_L = some m.cls := findClass_of_methodNamed B.named
  have hlocks := B.notSynchronized
  have hl := lv_entry ([.ref (h0), .int (nI (aa)), .int (nI (bb)), .ref (ho)]) (n := 5) (Nat.le_of_ble_eq_true rfl)
  rw [lg_entry_eq]
  generalize (lg_sl ([.ref (h0), .int (nI (aa)), .int (nI (bb)), .ref (ho)]) ++ List.replicate (5 - (lg_sl ([.ref (h0), .int (nI (aa)), .int (nI (bb)), .ref (ho)])).length) Slot.unset).toArray = ls at hl ⊢
  have hl : lv_has ls 5 [(0, .ref (h0)), (1, .int (nI (aa))), (2, .int (nI (bb))), (3, .ref (ho))] := hl
  generalize ([.ref (h0), .int (nI (aa)), .int (nI (bb)), .ref (ho)] : List Value).toArray = args at B hts hw ⊢
  have htab := vx_table (x := y_L_product) B (hts _ List.mem_cons_self)
  refine vx_ret ?_
  have hp5 : 5 ≤ pp := by have := G.1; have := G.2.2.1.1; omega
  have hp := G.2.2.2.2.2.2
  have hq2 : 2 ≤ qq := G.2.2.1.1
  have hq : qq < 2 ^ 31 := by have := G.1; omega
  have hgp : gg < pp := G.2.2.2.2.1
  have hD : va_D (fun q => q = ho) (oA ho cA f) := one_D
  have hS : va_S (fun q => q = ho) s.heap s.heap [] := va_S.rf
  have hval : aa * bb % pp < 2 ^ 31 := Nat.lt_trans (Nat.mod_lt _ (by omega)) hp
  refine lv_aload_n hx hb d_L_product_0 rfl (lv_at hl 3 rfl) ?_
  refine lv_iconst (v := nI (0)) hx hb d_L_product_1 (by decide) ?_
  refine lv_aload_n hx hb d_L_product_2 rfl (lv_at hl 0 rfl) ?_
  refine lv_iload_n hx hb d_L_product_3 rfl (lv_at hl 1 rfl) ?_
  refine lv_iload_n hx hb d_L_product_4 rfl (lv_at hl 2 rfl) ?_
  refine zV (b := h0) (As := [.int (nI (aa)), .int (nI (bb))]) (rest := [.int (nI (0)), .ref (ho)]) ⟨hx, hb, hml, hown, hw⟩ (c_X_product_ok l D h0 pp qq gg G aa bb h1 h2) OX_B (OX_at hP hK hT (fun _ _ => rfl)) (va_recv hK hP (ci := 0) (q0 := 0) rfl rfl) g_L_7 rfl rfl pd_X_product ⟨Nat.le_of_ble_eq_true rfl, Nat.le_of_ble_eq_true rfl⟩ hl.1 rfl (Nat.le_of_ble_eq_true rfl) d_L_product_5 ⟨Nat.zero_le _, Nat.zero_le _⟩ ?_
  refine W.eq (g2 := F0 m 8 ls [.int (nI (aa * bb % pp)), .int (nI (0)), .ref (ho)]) rfl ?_
  refine lv_i2l (v := lN (aa * bb % pp)) hx hb d_L_product_8 (nI_l (hval)) ?_
  refine va_last (i := nI (0)) hx hb hKl hO hD hS 0 0 rfl rfl (vp_in_nI (by decide) (by decide)) d_L_product_9 (fun H locs hO hD hS => ?_)
  have hO : va_P D classes (oA ho cA (vp_updL f (nI (0)).toNatClampNeg (lN (aa * bb % pp)))) H := hO
  refine lv_goto (tgt := 17) hx hb d_L_product_10 (by decide) ?_
  refine lv_iconst (v := nI (0)) hx hb d_L_product_17 (by decide) ?_
  exact W.iret hx hb hr (fun t ht _ => ⟨rfl, by rw [ht]; exact hO, hS.F ht⟩) hS.2.2 d_L_product_18
set_option maxHeartbeats 4000000 in
set_option maxRecDepth 100000 in
theorem c_L_product_bad (l : Launch) (hL : l.stackTraces = false) (D : va_G) (h0 pp qq gg : Nat) (ho : Nat) (cA : ClassId) (f : Nat → Int64) (G : grp pp qq gg) (av bv : Int32) (hno : ¬ (res av.toInt pp ∧ res bv.toInt pp)) : Met l y_L_product (k_L_product :: wall) { frames := 8, cells := 1, slots := 6, locals := 130 } (zP [.ref (h0), .int (av), .int (bv), .ref (ho)] (OL D h0 (nI (pp)) (nI (qq)) (nI (gg)) ho cA f)) (zN (some (.int (nI (1))))) 1 6 (fun _ => False) := by
  refine met_of_vx (vx_ofWH (cc := b_L_product) (maxL := 5) (ret := (some .int)) (by decide) rfl ?_)
  intro p e s m args below meth c s₁ B hml hv
  obtain ⟨hv, ⟨hP, hK, hT⟩, hO, hKl, hN⟩ := hv
  subst hv
  have hx := B.exec
  have hb := B.bytes
  have hr := B.returns
  have hts := atoms_spec (ws := k_L_product :: wall) B.pre
  have hw : ∀ w ∈ wall, w.before _ s = true := fun w h => hts w (List.mem_cons_of_mem _ h)
  have hown : s.vm.findClass R_L = some m.cls := findClass_of_methodNamed B.named
  have hlocks := B.notSynchronized
  have hl := lv_entry ([.ref (h0), .int (av), .int (bv), .ref (ho)]) (n := 5) (Nat.le_of_ble_eq_true rfl)
  rw [lg_entry_eq]
  generalize (lg_sl ([.ref (h0), .int (av), .int (bv), .ref (ho)]) ++ List.replicate (5 - (lg_sl ([.ref (h0), .int (av), .int (bv), .ref (ho)])).length) Slot.unset).toArray = ls at hl ⊢
  have hl : lv_has ls 5 [(0, .ref (h0)), (1, .int (av)), (2, .int (bv)), (3, .ref (ho))] := hl
  generalize ([.ref (h0), .int (av), .int (bv), .ref (ho)] : List Value).toArray = args at B hts hw ⊢
  have htab := vx_table (x := y_L_product) B (hts _ List.mem_cons_self)
  refine vx_ret ?_
  have hp5 : 5 ≤ pp := by have := G.1; have := G.2.2.1.1; omega
  have hp := G.2.2.2.2.2.2
  have hq2 : 2 ≤ qq := G.2.2.1.1
  have hq : qq < 2 ^ 31 := by have := G.1; omega
  have hgp : gg < pp := G.2.2.2.2.1
  refine lv_aload_n hx hb d_L_product_0 rfl (lv_at hl 3 rfl) ?_
  refine lv_iconst (v := nI (0)) hx hb d_L_product_1 (by decide) ?_
  refine lv_aload_n hx hb d_L_product_2 rfl (lv_at hl 0 rfl) ?_
  refine lv_iload_n hx hb d_L_product_3 rfl (lv_at hl 1 rfl) ?_
  refine lv_iload_n hx hb d_L_product_4 rfl (lv_at hl 2 rfl) ?_
  refine zXc (own := R_L) (name := IAE) (E := IAE) (hpc := 13) hown [] { startPc := 0, endPc := 10, handlerPc := 13, catchType := 13 } [] htab (Or.inl rfl) (by decide) (by decide) rfl (hw _ cl_L_13) (va_Nw.use rfl hT.1) (zXr (b := h0) (As := [.int (av), .int (bv)]) (rest := [.int (nI (0)), .ref (ho)]) ⟨hx, hb, hml, hown, hw⟩ (c_X_product_bad l hL D h0 pp qq gg G av bv hno) OX_B (OX_at hP hK hT (fun _ _ => rfl)) (va_recv hK hP (ci := 0) (q0 := 0) rfl rfl) g_L_7 rfl rfl pd_X_product ⟨Nat.le_of_ble_eq_true rfl, Nat.le_of_ble_eq_true rfl⟩ hl.1 rfl (Nat.le_of_ble_eq_true rfl) d_L_product_5 ⟨Nat.le_of_ble_eq_true rfl, Nat.le_of_ble_eq_true rfl⟩) (fun q H1 hz hk => ?_)
  refine lv_astore (lv' := [(4, .ref (q)), (0, .ref (h0)), (1, .int (av)), (2, .int (bv)), (3, .ref (ho))]) hx hb d_L_product_13 hl (by decide) rfl (fun ls hl => ?_)
  refine lv_iconst (v := nI (1)) hx hb d_L_product_15 (by decide) ?_
  exact W.iret hx hb hr (fun t ht _ => ⟨rfl, by rw [ht]; exact hz, fun r hr => by rw [ht]; exact hk r hr⟩) (fun _ h => nomatch h) d_L_product_16
set_option maxHeartbeats 4000000 in
set_option maxRecDepth 100000 in
theorem c_L_power_ok (l : Launch) (D : va_G) (h0 pp qq gg : Nat) (ho : Nat) (cA : ClassId) (f : Nat → Int64) (G : grp pp qq gg) (aa ee : Nat) (h1 : aa < pp) (h2 : ee < 2 ^ 63) : Met l y_L_power (k_L_power :: wall) { frames := 8, cells := 0, slots := 0, locals := 130 } (zP [.ref (h0), .int (nI (aa)), .long (lN (ee)), .ref (ho)] (OL D h0 (nI (pp)) (nI (qq)) (nI (gg)) ho cA f)) (zW (some (.int (nI (0)))) D (oA ho cA (vp_updL f (nI (0)).toNatClampNeg (lN (aa ^ ee % pp)))) ho) 0 0 (fun q => q = ho) := by
  refine met_of_vx (vx_ofWH (cc := b_L_power) (maxL := 6) (ret := (some .int)) (by decide) rfl ?_)
  intro p e s m args below meth c s₁ B hml hv
  obtain ⟨hv, ⟨hP, hK, hT⟩, hO, hKl, hN⟩ := hv
  subst hv
  have hx := B.exec
  have hb := B.bytes
  have hr := B.returns
  have hts := atoms_spec (ws := k_L_power :: wall) B.pre
  have hw : ∀ w ∈ wall, w.before _ s = true := fun w h => hts w (List.mem_cons_of_mem _ h)
  have hown : s.vm.findClass R_L = some m.cls := findClass_of_methodNamed B.named
  have hlocks := B.notSynchronized
  have hl := lv_entry ([.ref (h0), .int (nI (aa)), .long (lN (ee)), .ref (ho)]) (n := 6) (Nat.le_of_ble_eq_true rfl)
  rw [lg_entry_eq]
  generalize (lg_sl ([.ref (h0), .int (nI (aa)), .long (lN (ee)), .ref (ho)]) ++ List.replicate (6 - (lg_sl ([.ref (h0), .int (nI (aa)), .long (lN (ee)), .ref (ho)])).length) Slot.unset).toArray = ls at hl ⊢
  have hl : lv_has ls 6 [(0, .ref (h0)), (1, .int (nI (aa))), (2, .long (lN (ee))), (4, .ref (ho))] := hl
  generalize ([.ref (h0), .int (nI (aa)), .long (lN (ee)), .ref (ho)] : List Value).toArray = args at B hts hw ⊢
  have htab := vx_table (x := y_L_power) B (hts _ List.mem_cons_self)
  refine vx_ret ?_
  have hp5 : 5 ≤ pp := by have := G.1; have := G.2.2.1.1; omega
  have hp := G.2.2.2.2.2.2
  have hq2 : 2 ≤ qq := G.2.2.1.1
  have hq : qq < 2 ^ 31 := by have := G.1; omega
  have hgp : gg < pp := G.2.2.2.2.1
  have hD : va_D (fun q => q = ho) (oA ho cA f) := one_D
  have hS : va_S (fun q => q = ho) s.heap s.heap [] := va_S.rf
  have hval : aa ^ ee % pp < 2 ^ 31 := Nat.lt_trans (Nat.mod_lt _ (by omega)) hp
  refine lv_aload hx hb d_L_power_0 (lv_at hl 3 rfl) ?_
  refine lv_iconst (v := nI (0)) hx hb d_L_power_2 (by decide) ?_
  refine lv_aload_n hx hb d_L_power_3 rfl (lv_at hl 0 rfl) ?_
  refine lv_iload_n hx hb d_L_power_4 rfl (lv_at hl 1 rfl) ?_
  refine lv_lload_n hx hb d_L_power_5 rfl (lv_at hl 2 rfl) ?_
  refine zV (b := h0) (As := [.int (nI (aa)), .long (lN (ee))]) (rest := [.int (nI (0)), .ref (ho)]) ⟨hx, hb, hml, hown, hw⟩ (c_X_power_ok l D h0 pp qq gg G aa ee h1 h2) OX_B (OX_at hP hK hT (fun _ _ => rfl)) (va_recv hK hP (ci := 0) (q0 := 0) rfl rfl) g_L_15 rfl rfl pd_X_power ⟨Nat.le_of_ble_eq_true rfl, Nat.le_of_ble_eq_true rfl⟩ hl.1 rfl (Nat.le_of_ble_eq_true rfl) d_L_power_6 ⟨Nat.zero_le _, Nat.zero_le _⟩ ?_
  refine W.eq (g2 := F0 m 9 ls [.int (nI (aa ^ ee % pp)), .int (nI (0)), .ref (ho)]) rfl ?_
  refine lv_i2l (v := lN (aa ^ ee % pp)) hx hb d_L_power_9 (nI_l (hval)) ?_
  refine va_last (i := nI (0)) hx hb hKl hO hD hS 0 0 rfl rfl (vp_in_nI (by decide) (by decide)) d_L_power_10 (fun H locs hO hD hS => ?_)
  have hO : va_P D classes (oA ho cA (vp_updL f (nI (0)).toNatClampNeg (lN (aa ^ ee % pp)))) H := hO
  refine lv_goto (tgt := 18) hx hb d_L_power_11 (by decide) ?_
  refine lv_iconst (v := nI (0)) hx hb d_L_power_18 (by decide) ?_
  exact W.iret hx hb hr (fun t ht _ => ⟨rfl, by rw [ht]; exact hO, hS.F ht⟩) hS.2.2 d_L_power_19
set_option maxHeartbeats 4000000 in
set_option maxRecDepth 100000 in
theorem c_L_power_bad (l : Launch) (hL : l.stackTraces = false) (D : va_G) (h0 pp qq gg : Nat) (ho : Nat) (cA : ClassId) (f : Nat → Int64) (G : grp pp qq gg) (av : Int32) (ev : Int64) (hno : ¬ (res av.toInt pp ∧ 0 ≤ ev.toInt)) : Met l y_L_power (k_L_power :: wall) { frames := 8, cells := 1, slots := 6, locals := 130 } (zP [.ref (h0), .int (av), .long (ev), .ref (ho)] (OL D h0 (nI (pp)) (nI (qq)) (nI (gg)) ho cA f)) (zN (some (.int (nI (1))))) 1 6 (fun _ => False) := by
  refine met_of_vx (vx_ofWH (cc := b_L_power) (maxL := 6) (ret := (some .int)) (by decide) rfl ?_)
  intro p e s m args below meth c s₁ B hml hv
  obtain ⟨hv, ⟨hP, hK, hT⟩, hO, hKl, hN⟩ := hv
  subst hv
  have hx := B.exec
  have hb := B.bytes
  have hr := B.returns
  have hts := atoms_spec (ws := k_L_power :: wall) B.pre
  have hw : ∀ w ∈ wall, w.before _ s = true := fun w h => hts w (List.mem_cons_of_mem _ h)
  have hown : s.vm.findClass R_L = some m.cls := findClass_of_methodNamed B.named
  have hlocks := B.notSynchronized
  have hl := lv_entry ([.ref (h0), .int (av), .long (ev), .ref (ho)]) (n := 6) (Nat.le_of_ble_eq_true rfl)
  rw [lg_entry_eq]
  generalize (lg_sl ([.ref (h0), .int (av), .long (ev), .ref (ho)]) ++ List.replicate (6 - (lg_sl ([.ref (h0), .int (av), .long (ev), .ref (ho)])).length) Slot.unset).toArray = ls at hl ⊢
  have hl : lv_has ls 6 [(0, .ref (h0)), (1, .int (av)), (2, .long (ev)), (4, .ref (ho))] := hl
  generalize ([.ref (h0), .int (av), .long (ev), .ref (ho)] : List Value).toArray = args at B hts hw ⊢
  have htab := vx_table (x := y_L_power) B (hts _ List.mem_cons_self)
  refine vx_ret ?_
  have hp5 : 5 ≤ pp := by have := G.1; have := G.2.2.1.1; omega
  have hp := G.2.2.2.2.2.2
  have hq2 : 2 ≤ qq := G.2.2.1.1
  have hq : qq < 2 ^ 31 := by have := G.1; omega
  have hgp : gg < pp := G.2.2.2.2.1
  refine lv_aload hx hb d_L_power_0 (lv_at hl 3 rfl) ?_
  refine lv_iconst (v := nI (0)) hx hb d_L_power_2 (by decide) ?_
  refine lv_aload_n hx hb d_L_power_3 rfl (lv_at hl 0 rfl) ?_
  refine lv_iload_n hx hb d_L_power_4 rfl (lv_at hl 1 rfl) ?_
  refine lv_lload_n hx hb d_L_power_5 rfl (lv_at hl 2 rfl) ?_
  refine zXc (own := R_L) (name := IAE) (E := IAE) (hpc := 14) hown [] { startPc := 0, endPc := 11, handlerPc := 14, catchType := 13 } [] htab (Or.inl rfl) (by decide) (by decide) rfl (hw _ cl_L_13) (va_Nw.use rfl hT.1) (zXr (b := h0) (As := [.int (av), .long (ev)]) (rest := [.int (nI (0)), .ref (ho)]) ⟨hx, hb, hml, hown, hw⟩ (c_X_power_bad l hL D h0 pp qq gg G av ev hno) OX_B (OX_at hP hK hT (fun _ _ => rfl)) (va_recv hK hP (ci := 0) (q0 := 0) rfl rfl) g_L_15 rfl rfl pd_X_power ⟨Nat.le_of_ble_eq_true rfl, Nat.le_of_ble_eq_true rfl⟩ hl.1 rfl (Nat.le_of_ble_eq_true rfl) d_L_power_6 ⟨Nat.le_of_ble_eq_true rfl, Nat.le_of_ble_eq_true rfl⟩) (fun q H1 hz hk => ?_)
  refine lv_astore (lv' := [(5, .ref (q)), (0, .ref (h0)), (1, .int (av)), (2, .long (ev)), (4, .ref (ho))]) hx hb d_L_power_14 hl (by decide) rfl (fun ls hl => ?_)
  refine lv_iconst (v := nI (1)) hx hb d_L_power_16 (by decide) ?_
  exact W.iret hx hb hr (fun t ht _ => ⟨rfl, by rw [ht]; exact hz, fun r hr => by rw [ht]; exact hk r hr⟩) (fun _ h => nomatch h) d_L_power_17
set_option maxHeartbeats 4000000 in
set_option maxRecDepth 100000 in
theorem c_L_inverse_ok (l : Launch) (D : va_G) (h0 pp qq gg : Nat) (ho : Nat) (cA : ClassId) (f : Nat → Int64) (G : grp pp qq gg) (aa : Nat) (h0a : 1 ≤ aa) (h1 : aa < pp) : Met l y_L_inverse (k_L_inverse :: wall) { frames := 8, cells := 0, slots := 0, locals := 130 } (zP [.ref (h0), .int (nI (aa)), .ref (ho)] (OL D h0 (nI (pp)) (nI (qq)) (nI (gg)) ho cA f)) (zW (some (.int (nI (0)))) D (oA ho cA (vp_updL f (nI (0)).toNatClampNeg (lN (aa ^ (pp - 2) % pp)))) ho) 0 0 (fun q => q = ho) := by
  refine met_of_vx (vx_ofWH (cc := b_L_inverse) (maxL := 4) (ret := (some .int)) (by decide) rfl ?_)
  intro p e s m args below meth c s₁ B hml hv
  obtain ⟨hv, ⟨hP, hK, hT⟩, hO, hKl, hN⟩ := hv
  subst hv
  have hx := B.exec
  have hb := B.bytes
  have hr := B.returns
  have hts := atoms_spec (ws := k_L_inverse :: wall) B.pre
  have hw : ∀ w ∈ wall, w.before _ s = true := fun w h => hts w (List.mem_cons_of_mem _ h)
  have hown : s.vm.findClass R_L = some m.cls := findClass_of_methodNamed B.named
  have hlocks := B.notSynchronized
  have hl := lv_entry ([.ref (h0), .int (nI (aa)), .ref (ho)]) (n := 4) (Nat.le_of_ble_eq_true rfl)
  rw [lg_entry_eq]
  generalize (lg_sl ([.ref (h0), .int (nI (aa)), .ref (ho)]) ++ List.replicate (4 - (lg_sl ([.ref (h0), .int (nI (aa)), .ref (ho)])).length) Slot.unset).toArray = ls at hl ⊢
  have hl : lv_has ls 4 [(0, .ref (h0)), (1, .int (nI (aa))), (2, .ref (ho))] := hl
  generalize ([.ref (h0), .int (nI (aa)), .ref (ho)] : List Value).toArray = args at B hts hw ⊢
  have htab := vx_table (x := y_L_inverse) B (hts _ List.mem_cons_self)
  refine vx_ret ?_
  have hp5 : 5 ≤ pp := by have := G.1; have := G.2.2.1.1; omega
  have hp := G.2.2.2.2.2.2
  have hq2 : 2 ≤ qq := G.2.2.1.1
  have hq : qq < 2 ^ 31 := by have := G.1; omega
  have hgp : gg < pp := G.2.2.2.2.1
  have hD : va_D (fun q => q = ho) (oA ho cA f) := one_D
  have hS : va_S (fun q => q = ho) s.heap s.heap [] := va_S.rf
  have hval : aa ^ (pp - 2) % pp < 2 ^ 31 := Nat.lt_trans (Nat.mod_lt _ (by omega)) hp
  refine lv_aload_n hx hb d_L_inverse_0 rfl (lv_at hl 2 rfl) ?_
  refine lv_iconst (v := nI (0)) hx hb d_L_inverse_1 (by decide) ?_
  refine lv_aload_n hx hb d_L_inverse_2 rfl (lv_at hl 0 rfl) ?_
  refine lv_iload_n hx hb d_L_inverse_3 rfl (lv_at hl 1 rfl) ?_
  refine zV (b := h0) (As := [.int (nI (aa))]) (rest := [.int (nI (0)), .ref (ho)]) ⟨hx, hb, hml, hown, hw⟩ (c_X_inverse_ok l D h0 pp qq gg G aa h0a h1) OX_B (OX_at hP hK hT (fun _ _ => rfl)) (va_recv hK hP (ci := 0) (q0 := 0) rfl rfl) g_L_19 rfl rfl pd_X_inverse ⟨Nat.le_of_ble_eq_true rfl, Nat.le_of_ble_eq_true rfl⟩ hl.1 rfl (Nat.le_of_ble_eq_true rfl) d_L_inverse_4 ⟨Nat.zero_le _, Nat.zero_le _⟩ ?_
  refine W.eq (g2 := F0 m 7 ls [.int (nI (aa ^ (pp - 2) % pp)), .int (nI (0)), .ref (ho)]) rfl ?_
  refine lv_i2l (v := lN (aa ^ (pp - 2) % pp)) hx hb d_L_inverse_7 (nI_l (hval)) ?_
  refine va_last (i := nI (0)) hx hb hKl hO hD hS 0 0 rfl rfl (vp_in_nI (by decide) (by decide)) d_L_inverse_8 (fun H locs hO hD hS => ?_)
  have hO : va_P D classes (oA ho cA (vp_updL f (nI (0)).toNatClampNeg (lN (aa ^ (pp - 2) % pp)))) H := hO
  refine lv_goto (tgt := 15) hx hb d_L_inverse_9 (by decide) ?_
  refine lv_iconst (v := nI (0)) hx hb d_L_inverse_15 (by decide) ?_
  exact W.iret hx hb hr (fun t ht _ => ⟨rfl, by rw [ht]; exact hO, hS.F ht⟩) hS.2.2 d_L_inverse_16
set_option maxHeartbeats 4000000 in
set_option maxRecDepth 100000 in
theorem c_L_inverse_bad (l : Launch) (hL : l.stackTraces = false) (D : va_G) (h0 pp qq gg : Nat) (ho : Nat) (cA : ClassId) (f : Nat → Int64) (G : grp pp qq gg) (av : Int32) (hno : ¬ (1 ≤ av.toInt ∧ av.toInt < pp)) : Met l y_L_inverse (k_L_inverse :: wall) { frames := 8, cells := 1, slots := 6, locals := 130 } (zP [.ref (h0), .int (av), .ref (ho)] (OL D h0 (nI (pp)) (nI (qq)) (nI (gg)) ho cA f)) (zN (some (.int (nI (1))))) 1 6 (fun _ => False) := by
  refine met_of_vx (vx_ofWH (cc := b_L_inverse) (maxL := 4) (ret := (some .int)) (by decide) rfl ?_)
  intro p e s m args below meth c s₁ B hml hv
  obtain ⟨hv, ⟨hP, hK, hT⟩, hO, hKl, hN⟩ := hv
  subst hv
  have hx := B.exec
  have hb := B.bytes
  have hr := B.returns
  have hts := atoms_spec (ws := k_L_inverse :: wall) B.pre
  have hw : ∀ w ∈ wall, w.before _ s = true := fun w h => hts w (List.mem_cons_of_mem _ h)
  have hown : s.vm.findClass R_L = some m.cls := findClass_of_methodNamed B.named
  have hlocks := B.notSynchronized
  have hl := lv_entry ([.ref (h0), .int (av), .ref (ho)]) (n := 4) (Nat.le_of_ble_eq_true rfl)
  rw [lg_entry_eq]
  generalize (lg_sl ([.ref (h0), .int (av), .ref (ho)]) ++ List.replicate (4 - (lg_sl ([.ref (h0), .int (av), .ref (ho)])).length) Slot.unset).toArray = ls at hl ⊢
  have hl : lv_has ls 4 [(0, .ref (h0)), (1, .int (av)), (2, .ref (ho))] := hl
  generalize ([.ref (h0), .int (av), .ref (ho)] : List Value).toArray = args at B hts hw ⊢
  have htab := vx_table (x := y_L_inverse) B (hts _ List.mem_cons_self)
  refine vx_ret ?_
  have hp5 : 5 ≤ pp := by have := G.1; have := G.2.2.1.1; omega
  have hp := G.2.2.2.2.2.2
  have hq2 : 2 ≤ qq := G.2.2.1.1
  have hq : qq < 2 ^ 31 := by have := G.1; omega
  have hgp : gg < pp := G.2.2.2.2.1
  refine lv_aload_n hx hb d_L_inverse_0 rfl (lv_at hl 2 rfl) ?_
  refine lv_iconst (v := nI (0)) hx hb d_L_inverse_1 (by decide) ?_
  refine lv_aload_n hx hb d_L_inverse_2 rfl (lv_at hl 0 rfl) ?_
  refine lv_iload_n hx hb d_L_inverse_3 rfl (lv_at hl 1 rfl) ?_
  refine zXc (own := R_L) (name := IAE) (E := IAE) (hpc := 12) hown [] { startPc := 0, endPc := 9, handlerPc := 12, catchType := 13 } [] htab (Or.inl rfl) (by decide) (by decide) rfl (hw _ cl_L_13) (va_Nw.use rfl hT.1) (zXr (b := h0) (As := [.int (av)]) (rest := [.int (nI (0)), .ref (ho)]) ⟨hx, hb, hml, hown, hw⟩ (c_X_inverse_bad l hL D h0 pp qq gg G av hno) OX_B (OX_at hP hK hT (fun _ _ => rfl)) (va_recv hK hP (ci := 0) (q0 := 0) rfl rfl) g_L_19 rfl rfl pd_X_inverse ⟨Nat.le_of_ble_eq_true rfl, Nat.le_of_ble_eq_true rfl⟩ hl.1 rfl (Nat.le_of_ble_eq_true rfl) d_L_inverse_4 ⟨Nat.le_of_ble_eq_true rfl, Nat.le_of_ble_eq_true rfl⟩) (fun q H1 hz hk => ?_)
  refine lv_astore_n (lv' := [(3, .ref (q)), (0, .ref (h0)), (1, .int (av)), (2, .ref (ho))]) hx hb d_L_inverse_12 rfl hl (by decide) rfl (fun ls hl => ?_)
  refine lv_iconst (v := nI (1)) hx hb d_L_inverse_13 (by decide) ?_
  exact W.iret hx hb hr (fun t ht _ => ⟨rfl, by rw [ht]; exact hz, fun r hr => by rw [ht]; exact hk r hr⟩) (fun _ h => nomatch h) d_L_inverse_14
set_option maxHeartbeats 4000000 in
set_option maxRecDepth 100000 in
theorem c_L_log_ok (l : Launch) (D : va_G) (h0 pp qq gg : Nat) (ho : Nat) (cA : ClassId) (f : Nat → Int64) (G : grp pp qq gg) (yy x0 : Nat) (h1 : yy < pp) (hm : mem (nI (yy)).toInt pp qq) (h2 : pp ≤ 20000) (h3 : x0 < qq) (h4 : gg ^ x0 % pp = yy) : Met l y_L_log (k_L_log :: wall) { frames := 8, cells := 0, slots := 0, locals := 130 } (zP [.ref (h0), .int (nI (yy)), .ref (ho)] (OL D h0 (nI (pp)) (nI (qq)) (nI (gg)) ho cA f)) (zW (some (.int (nI (0)))) D (oA ho cA (vp_updL f (nI (0)).toNatClampNeg (lN (x0)))) ho) 0 0 (fun q => q = ho) := by
  refine met_of_vx (vx_ofWH (cc := b_L_log) (maxL := 4) (ret := (some .int)) (by decide) rfl ?_)
  intro p e s m args below meth c s₁ B hml hv
  obtain ⟨hv, ⟨hP, hK, hT⟩, hO, hKl, hN⟩ := hv
  subst hv
  have hx := B.exec
  have hb := B.bytes
  have hr := B.returns
  have hts := atoms_spec (ws := k_L_log :: wall) B.pre
  have hw : ∀ w ∈ wall, w.before _ s = true := fun w h => hts w (List.mem_cons_of_mem _ h)
  have hown : s.vm.findClass R_L = some m.cls := findClass_of_methodNamed B.named
  have hlocks := B.notSynchronized
  have hl := lv_entry ([.ref (h0), .int (nI (yy)), .ref (ho)]) (n := 4) (Nat.le_of_ble_eq_true rfl)
  rw [lg_entry_eq]
  generalize (lg_sl ([.ref (h0), .int (nI (yy)), .ref (ho)]) ++ List.replicate (4 - (lg_sl ([.ref (h0), .int (nI (yy)), .ref (ho)])).length) Slot.unset).toArray = ls at hl ⊢
  have hl : lv_has ls 4 [(0, .ref (h0)), (1, .int (nI (yy))), (2, .ref (ho))] := hl
  generalize ([.ref (h0), .int (nI (yy)), .ref (ho)] : List Value).toArray = args at B hts hw ⊢
  have htab := vx_table (x := y_L_log) B (hts _ List.mem_cons_self)
  refine vx_ret ?_
  have hp5 : 5 ≤ pp := by have := G.1; have := G.2.2.1.1; omega
  have hp := G.2.2.2.2.2.2
  have hq2 : 2 ≤ qq := G.2.2.1.1
  have hq : qq < 2 ^ 31 := by have := G.1; omega
  have hgp : gg < pp := G.2.2.2.2.1
  have hD : va_D (fun q => q = ho) (oA ho cA f) := one_D
  have hS : va_S (fun q => q = ho) s.heap s.heap [] := va_S.rf
  have hval : x0 < 2 ^ 31 := by omega
  refine lv_aload_n hx hb d_L_log_0 rfl (lv_at hl 2 rfl) ?_
  refine lv_iconst (v := nI (0)) hx hb d_L_log_1 (by decide) ?_
  refine lv_aload_n hx hb d_L_log_2 rfl (lv_at hl 0 rfl) ?_
  refine lv_iload_n hx hb d_L_log_3 rfl (lv_at hl 1 rfl) ?_
  refine zV (b := h0) (As := [.int (nI (yy))]) (rest := [.int (nI (0)), .ref (ho)]) ⟨hx, hb, hml, hown, hw⟩ (c_X_log_ok l D h0 pp qq gg G yy x0 h1 hm h2 h3 h4) OX_B (OX_at hP hK hT (fun _ _ => rfl)) (va_recv hK hP (ci := 0) (q0 := 0) rfl rfl) g_L_23 rfl rfl pd_X_log ⟨Nat.le_of_ble_eq_true rfl, Nat.le_of_ble_eq_true rfl⟩ hl.1 rfl (Nat.le_of_ble_eq_true rfl) d_L_log_4 ⟨Nat.zero_le _, Nat.zero_le _⟩ ?_
  refine W.eq (g2 := F0 m 7 ls [.int (nI (x0)), .int (nI (0)), .ref (ho)]) rfl ?_
  refine lv_i2l (v := lN (x0)) hx hb d_L_log_7 (nI_l (hval)) ?_
  refine va_last (i := nI (0)) hx hb hKl hO hD hS 0 0 rfl rfl (vp_in_nI (by decide) (by decide)) d_L_log_8 (fun H locs hO hD hS => ?_)
  have hO : va_P D classes (oA ho cA (vp_updL f (nI (0)).toNatClampNeg (lN (x0)))) H := hO
  refine lv_goto (tgt := 18) hx hb d_L_log_9 (by decide) ?_
  refine lv_iconst (v := nI (0)) hx hb d_L_log_18 (by decide) ?_
  exact W.iret hx hb hr (fun t ht _ => ⟨rfl, by rw [ht]; exact hO, hS.F ht⟩) hS.2.2 d_L_log_19
set_option maxHeartbeats 4000000 in
set_option maxRecDepth 100000 in
theorem c_L_log_bad (l : Launch) (hL : l.stackTraces = false) (D : va_G) (h0 pp qq gg : Nat) (ho : Nat) (cA : ClassId) (f : Nat → Int64) (G : grp pp qq gg) (av : Int32) (hno : ¬ mem av.toInt pp qq) : Met l y_L_log (k_L_log :: wall) { frames := 8, cells := 1, slots := 6, locals := 130 } (zP [.ref (h0), .int (av), .ref (ho)] (OL D h0 (nI (pp)) (nI (qq)) (nI (gg)) ho cA f)) (zN (some (.int (nI (1))))) 1 6 (fun _ => False) := by
  refine met_of_vx (vx_ofWH (cc := b_L_log) (maxL := 4) (ret := (some .int)) (by decide) rfl ?_)
  intro p e s m args below meth c s₁ B hml hv
  obtain ⟨hv, ⟨hP, hK, hT⟩, hO, hKl, hN⟩ := hv
  subst hv
  have hx := B.exec
  have hb := B.bytes
  have hr := B.returns
  have hts := atoms_spec (ws := k_L_log :: wall) B.pre
  have hw : ∀ w ∈ wall, w.before _ s = true := fun w h => hts w (List.mem_cons_of_mem _ h)
  have hown : s.vm.findClass R_L = some m.cls := findClass_of_methodNamed B.named
  have hlocks := B.notSynchronized
  have hl := lv_entry ([.ref (h0), .int (av), .ref (ho)]) (n := 4) (Nat.le_of_ble_eq_true rfl)
  rw [lg_entry_eq]
  generalize (lg_sl ([.ref (h0), .int (av), .ref (ho)]) ++ List.replicate (4 - (lg_sl ([.ref (h0), .int (av), .ref (ho)])).length) Slot.unset).toArray = ls at hl ⊢
  have hl : lv_has ls 4 [(0, .ref (h0)), (1, .int (av)), (2, .ref (ho))] := hl
  generalize ([.ref (h0), .int (av), .ref (ho)] : List Value).toArray = args at B hts hw ⊢
  have htab := vx_table (x := y_L_log) B (hts _ List.mem_cons_self)
  refine vx_ret ?_
  have hp5 : 5 ≤ pp := by have := G.1; have := G.2.2.1.1; omega
  have hp := G.2.2.2.2.2.2
  have hq2 : 2 ≤ qq := G.2.2.1.1
  have hq : qq < 2 ^ 31 := by have := G.1; omega
  have hgp : gg < pp := G.2.2.2.2.1
  refine lv_aload_n hx hb d_L_log_0 rfl (lv_at hl 2 rfl) ?_
  refine lv_iconst (v := nI (0)) hx hb d_L_log_1 (by decide) ?_
  refine lv_aload_n hx hb d_L_log_2 rfl (lv_at hl 0 rfl) ?_
  refine lv_iload_n hx hb d_L_log_3 rfl (lv_at hl 1 rfl) ?_
  refine zXc (own := R_L) (name := IAE) (E := IAE) (hpc := 12) hown [] { startPc := 0, endPc := 9, handlerPc := 12, catchType := 13 } [{ startPc := 0, endPc := 9, handlerPc := 15, catchType := 26 }] htab (Or.inl rfl) (by decide) (by decide) rfl (hw _ cl_L_13) (va_Nw.use rfl hT.1) (zXr (b := h0) (As := [.int (av)]) (rest := [.int (nI (0)), .ref (ho)]) ⟨hx, hb, hml, hown, hw⟩ (c_X_log_bad l hL D h0 pp qq gg G av hno) OX_B (OX_at hP hK hT (fun _ _ => rfl)) (va_recv hK hP (ci := 0) (q0 := 0) rfl rfl) g_L_23 rfl rfl pd_X_log ⟨Nat.le_of_ble_eq_true rfl, Nat.le_of_ble_eq_true rfl⟩ hl.1 rfl (Nat.le_of_ble_eq_true rfl) d_L_log_4 ⟨Nat.le_of_ble_eq_true rfl, Nat.le_of_ble_eq_true rfl⟩) (fun q H1 hz hk => ?_)
  refine lv_astore_n (lv' := [(3, .ref (q)), (0, .ref (h0)), (1, .int (av)), (2, .ref (ho))]) hx hb d_L_log_12 rfl hl (by decide) rfl (fun ls hl => ?_)
  refine lv_iconst (v := nI (1)) hx hb d_L_log_13 (by decide) ?_
  exact W.iret hx hb hr (fun t ht _ => ⟨rfl, by rw [ht]; exact hz, fun r hr => by rw [ht]; exact hk r hr⟩) (fun _ h => nomatch h) d_L_log_14
set_option maxHeartbeats 4000000 in
set_option maxRecDepth 100000 in
theorem c_L_log_big (l : Launch) (hL : l.stackTraces = false) (D : va_G) (h0 pp qq gg : Nat) (ho : Nat) (cA : ClassId) (f : Nat → Int64) (G : grp pp qq gg) (av : Int32) (hm : mem av.toInt pp qq) (h2 : 20000 < pp) : Met l y_L_log (k_L_log :: wall) { frames := 8, cells := 1, slots := 6, locals := 130 } (zP [.ref (h0), .int (av), .ref (ho)] (OL D h0 (nI (pp)) (nI (qq)) (nI (gg)) ho cA f)) (zN (some (.int (nI (2))))) 1 6 (fun _ => False) := by
  refine met_of_vx (vx_ofWH (cc := b_L_log) (maxL := 4) (ret := (some .int)) (by decide) rfl ?_)
  intro p e s m args below meth c s₁ B hml hv
  obtain ⟨hv, ⟨hP, hK, hT⟩, hO, hKl, hN⟩ := hv
  subst hv
  have hx := B.exec
  have hb := B.bytes
  have hr := B.returns
  have hts := atoms_spec (ws := k_L_log :: wall) B.pre
  have hw : ∀ w ∈ wall, w.before _ s = true := fun w h => hts w (List.mem_cons_of_mem _ h)
  have hown : s.vm.findClass R_L = some m.cls := findClass_of_methodNamed B.named
  have hlocks := B.notSynchronized
  have hl := lv_entry ([.ref (h0), .int (av), .ref (ho)]) (n := 4) (Nat.le_of_ble_eq_true rfl)
  rw [lg_entry_eq]
  generalize (lg_sl ([.ref (h0), .int (av), .ref (ho)]) ++ List.replicate (4 - (lg_sl ([.ref (h0), .int (av), .ref (ho)])).length) Slot.unset).toArray = ls at hl ⊢
  have hl : lv_has ls 4 [(0, .ref (h0)), (1, .int (av)), (2, .ref (ho))] := hl
  generalize ([.ref (h0), .int (av), .ref (ho)] : List Value).toArray = args at B hts hw ⊢
  have htab := vx_table (x := y_L_log) B (hts _ List.mem_cons_self)
  refine vx_ret ?_
  have hp5 : 5 ≤ pp := by have := G.1; have := G.2.2.1.1; omega
  have hp := G.2.2.2.2.2.2
  have hq2 : 2 ≤ qq := G.2.2.1.1
  have hq : qq < 2 ^ 31 := by have := G.1; omega
  have hgp : gg < pp := G.2.2.2.2.1
  refine lv_aload_n hx hb d_L_log_0 rfl (lv_at hl 2 rfl) ?_
  refine lv_iconst (v := nI (0)) hx hb d_L_log_1 (by decide) ?_
  refine lv_aload_n hx hb d_L_log_2 rfl (lv_at hl 0 rfl) ?_
  refine lv_iload_n hx hb d_L_log_3 rfl (lv_at hl 1 rfl) ?_
  refine zXc (own := R_L) (name := ISE) (E := ISE) (hpc := 15) hown [{ startPc := 0, endPc := 9, handlerPc := 12, catchType := 13 }] { startPc := 0, endPc := 9, handlerPc := 15, catchType := 26 } [] htab (Or.inr ⟨_, IAE, rfl, by decide, by decide, hw _ cl_L_13, hN⟩) (by decide) (by decide) rfl (hw _ cl_L_26) (va_Nw.use rfl hT.2.1) (zXr (b := h0) (As := [.int (av)]) (rest := [.int (nI (0)), .ref (ho)]) ⟨hx, hb, hml, hown, hw⟩ (c_X_log_big l hL D h0 pp qq gg G av hm h2) OX_B (OX_at hP hK hT (fun _ _ => rfl)) (va_recv hK hP (ci := 0) (q0 := 0) rfl rfl) g_L_23 rfl rfl pd_X_log ⟨Nat.le_of_ble_eq_true rfl, Nat.le_of_ble_eq_true rfl⟩ hl.1 rfl (Nat.le_of_ble_eq_true rfl) d_L_log_4 ⟨Nat.le_of_ble_eq_true rfl, Nat.le_of_ble_eq_true rfl⟩) (fun q H1 hz hk => ?_)
  refine lv_astore_n (lv' := [(3, .ref (q)), (0, .ref (h0)), (1, .int (av)), (2, .ref (ho))]) hx hb d_L_log_15 rfl hl (by decide) rfl (fun ls hl => ?_)
  refine lv_iconst (v := nI (2)) hx hb d_L_log_16 (by decide) ?_
  exact W.iret hx hb hr (fun t ht _ => ⟨rfl, by rw [ht]; exact hz, fun r hr => by rw [ht]; exact hk r hr⟩) (fun _ h => nomatch h) d_L_log_17
set_option maxHeartbeats 4000000 in
set_option maxRecDepth 100000 in
theorem c_L_answer_ok (l : Launch) (D : va_G) (h0 pp qq gg : Nat) (ho : Nat) (cA : ClassId) (f : Nat → Int64) (G : grp pp qq gg) (xx kk ce : Nat) (h1 : xx < qq) (h2 : kk < qq) (h3 : ce < qq) : Met l y_L_answer (k_L_answer :: wall) { frames := 8, cells := 0, slots := 0, locals := 130 } (zP [.ref (h0), .int (nI (xx)), .int (nI (kk)), .int (nI (ce)), .ref (ho)] (OL D h0 (nI (pp)) (nI (qq)) (nI (gg)) ho cA f)) (zW (some (.int (nI (0)))) D (oA ho cA (vp_updL f (nI (0)).toNatClampNeg (lN ((kk + ce * xx) % qq)))) ho) 0 0 (fun q => q = ho) := by
  refine met_of_vx (vx_ofWH (cc := b_L_answer) (maxL := 6) (ret := (some .int)) (by decide) rfl ?_)
  intro p e s m args below meth c s₁ B hml hv
  obtain ⟨hv, ⟨hP, hK, hT⟩, hO, hKl, hN⟩ := hv
  subst hv
  have hx := B.exec
  have hb := B.bytes
  have hr := B.returns
  have hts := atoms_spec (ws := k_L_answer :: wall) B.pre
  have hw : ∀ w ∈ wall, w.before _ s = true := fun w h => hts w (List.mem_cons_of_mem _ h)
  have hown : s.vm.findClass R_L = some m.cls := findClass_of_methodNamed B.named
  have hlocks := B.notSynchronized
  have hl := lv_entry ([.ref (h0), .int (nI (xx)), .int (nI (kk)), .int (nI (ce)), .ref (ho)]) (n := 6) (Nat.le_of_ble_eq_true rfl)
  rw [lg_entry_eq]
  generalize (lg_sl ([.ref (h0), .int (nI (xx)), .int (nI (kk)), .int (nI (ce)), .ref (ho)]) ++ List.replicate (6 - (lg_sl ([.ref (h0), .int (nI (xx)), .int (nI (kk)), .int (nI (ce)), .ref (ho)])).length) Slot.unset).toArray = ls at hl ⊢
  have hl : lv_has ls 6 [(0, .ref (h0)), (1, .int (nI (xx))), (2, .int (nI (kk))), (3, .int (nI (ce))), (4, .ref (ho))] := hl
  generalize ([.ref (h0), .int (nI (xx)), .int (nI (kk)), .int (nI (ce)), .ref (ho)] : List Value).toArray = args at B hts hw ⊢
  have htab := vx_table (x := y_L_answer) B (hts _ List.mem_cons_self)
  refine vx_ret ?_
  have hp5 : 5 ≤ pp := by have := G.1; have := G.2.2.1.1; omega
  have hp := G.2.2.2.2.2.2
  have hq2 : 2 ≤ qq := G.2.2.1.1
  have hq : qq < 2 ^ 31 := by have := G.1; omega
  have hgp : gg < pp := G.2.2.2.2.1
  have hD : va_D (fun q => q = ho) (oA ho cA f) := one_D
  have hS : va_S (fun q => q = ho) s.heap s.heap [] := va_S.rf
  have hval : (kk + ce * xx) % qq < 2 ^ 31 := Nat.lt_trans (Nat.mod_lt _ (by omega)) hq
  refine lv_aload hx hb d_L_answer_0 (lv_at hl 4 rfl) ?_
  refine lv_iconst (v := nI (0)) hx hb d_L_answer_2 (by decide) ?_
  refine lv_aload_n hx hb d_L_answer_3 rfl (lv_at hl 0 rfl) ?_
  refine lv_iload_n hx hb d_L_answer_4 rfl (lv_at hl 1 rfl) ?_
  refine lv_iload_n hx hb d_L_answer_5 rfl (lv_at hl 2 rfl) ?_
  refine lv_iload_n hx hb d_L_answer_6 rfl (lv_at hl 3 rfl) ?_
  refine zV (b := h0) (As := [.int (nI (xx)), .int (nI (kk)), .int (nI (ce))]) (rest := [.int (nI (0)), .ref (ho)]) ⟨hx, hb, hml, hown, hw⟩ (c_X_answer_ok l D h0 pp qq gg G xx kk ce h1 h2 h3) OX_B (OX_at hP hK hT (fun _ _ => rfl)) (va_recv hK hP (ci := 0) (q0 := 0) rfl rfl) g_L_28 rfl rfl pd_X_answer ⟨Nat.le_of_ble_eq_true rfl, Nat.le_of_ble_eq_true rfl⟩ hl.1 rfl (Nat.le_of_ble_eq_true rfl) d_L_answer_7 ⟨Nat.zero_le _, Nat.zero_le _⟩ ?_
  refine W.eq (g2 := F0 m 10 ls [.int (nI ((kk + ce * xx) % qq)), .int (nI (0)), .ref (ho)]) rfl ?_
  refine lv_i2l (v := lN ((kk + ce * xx) % qq)) hx hb d_L_answer_10 (nI_l (hval)) ?_
  refine va_last (i := nI (0)) hx hb hKl hO hD hS 0 0 rfl rfl (vp_in_nI (by decide) (by decide)) d_L_answer_11 (fun H locs hO hD hS => ?_)
  have hO : va_P D classes (oA ho cA (vp_updL f (nI (0)).toNatClampNeg (lN ((kk + ce * xx) % qq)))) H := hO
  refine lv_goto (tgt := 19) hx hb d_L_answer_12 (by decide) ?_
  refine lv_iconst (v := nI (0)) hx hb d_L_answer_19 (by decide) ?_
  exact W.iret hx hb hr (fun t ht _ => ⟨rfl, by rw [ht]; exact hO, hS.F ht⟩) hS.2.2 d_L_answer_20
set_option maxHeartbeats 4000000 in
set_option maxRecDepth 100000 in
theorem c_L_answer_bad (l : Launch) (hL : l.stackTraces = false) (D : va_G) (h0 pp qq gg : Nat) (ho : Nat) (cA : ClassId) (f : Nat → Int64) (G : grp pp qq gg) (xv kv cv : Int32) (hno : ¬ (res xv.toInt qq ∧ res kv.toInt qq ∧ res cv.toInt qq)) : Met l y_L_answer (k_L_answer :: wall) { frames := 8, cells := 1, slots := 6, locals := 130 } (zP [.ref (h0), .int (xv), .int (kv), .int (cv), .ref (ho)] (OL D h0 (nI (pp)) (nI (qq)) (nI (gg)) ho cA f)) (zN (some (.int (nI (1))))) 1 6 (fun _ => False) := by
  refine met_of_vx (vx_ofWH (cc := b_L_answer) (maxL := 6) (ret := (some .int)) (by decide) rfl ?_)
  intro p e s m args below meth c s₁ B hml hv
  obtain ⟨hv, ⟨hP, hK, hT⟩, hO, hKl, hN⟩ := hv
  subst hv
  have hx := B.exec
  have hb := B.bytes
  have hr := B.returns
  have hts := atoms_spec (ws := k_L_answer :: wall) B.pre
  have hw : ∀ w ∈ wall, w.before _ s = true := fun w h => hts w (List.mem_cons_of_mem _ h)
  have hown : s.vm.findClass R_L = some m.cls := findClass_of_methodNamed B.named
  have hlocks := B.notSynchronized
  have hl := lv_entry ([.ref (h0), .int (xv), .int (kv), .int (cv), .ref (ho)]) (n := 6) (Nat.le_of_ble_eq_true rfl)
  rw [lg_entry_eq]
  generalize (lg_sl ([.ref (h0), .int (xv), .int (kv), .int (cv), .ref (ho)]) ++ List.replicate (6 - (lg_sl ([.ref (h0), .int (xv), .int (kv), .int (cv), .ref (ho)])).length) Slot.unset).toArray = ls at hl ⊢
  have hl : lv_has ls 6 [(0, .ref (h0)), (1, .int (xv)), (2, .int (kv)), (3, .int (cv)), (4, .ref (ho))] := hl
  generalize ([.ref (h0), .int (xv), .int (kv), .int (cv), .ref (ho)] : List Value).toArray = args at B hts hw ⊢
  have htab := vx_table (x := y_L_answer) B (hts _ List.mem_cons_self)
  refine vx_ret ?_
  have hp5 : 5 ≤ pp := by have := G.1; have := G.2.2.1.1; omega
  have hp := G.2.2.2.2.2.2
  have hq2 : 2 ≤ qq := G.2.2.1.1
  have hq : qq < 2 ^ 31 := by have := G.1; omega
  have hgp : gg < pp := G.2.2.2.2.1
  refine lv_aload hx hb d_L_answer_0 (lv_at hl 4 rfl) ?_
  refine lv_iconst (v := nI (0)) hx hb d_L_answer_2 (by decide) ?_
  refine lv_aload_n hx hb d_L_answer_3 rfl (lv_at hl 0 rfl) ?_
  refine lv_iload_n hx hb d_L_answer_4 rfl (lv_at hl 1 rfl) ?_
  refine lv_iload_n hx hb d_L_answer_5 rfl (lv_at hl 2 rfl) ?_
  refine lv_iload_n hx hb d_L_answer_6 rfl (lv_at hl 3 rfl) ?_
  refine zXc (own := R_L) (name := IAE) (E := IAE) (hpc := 15) hown [] { startPc := 0, endPc := 12, handlerPc := 15, catchType := 13 } [] htab (Or.inl rfl) (by decide) (by decide) rfl (hw _ cl_L_13) (va_Nw.use rfl hT.1) (zXr (b := h0) (As := [.int (xv), .int (kv), .int (cv)]) (rest := [.int (nI (0)), .ref (ho)]) ⟨hx, hb, hml, hown, hw⟩ (c_X_answer_bad l hL D h0 pp qq gg G xv kv cv hno) OX_B (OX_at hP hK hT (fun _ _ => rfl)) (va_recv hK hP (ci := 0) (q0 := 0) rfl rfl) g_L_28 rfl rfl pd_X_answer ⟨Nat.le_of_ble_eq_true rfl, Nat.le_of_ble_eq_true rfl⟩ hl.1 rfl (Nat.le_of_ble_eq_true rfl) d_L_answer_7 ⟨Nat.le_of_ble_eq_true rfl, Nat.le_of_ble_eq_true rfl⟩) (fun q H1 hz hk => ?_)
  refine lv_astore (lv' := [(5, .ref (q)), (0, .ref (h0)), (1, .int (xv)), (2, .int (kv)), (3, .int (cv)), (4, .ref (ho))]) hx hb d_L_answer_15 hl (by decide) rfl (fun ls hl => ?_)
  refine lv_iconst (v := nI (1)) hx hb d_L_answer_17 (by decide) ?_
  exact W.iret hx hb hr (fun t ht _ => ⟨rfl, by rw [ht]; exact hz, fun r hr => by rw [ht]; exact hk r hr⟩) (fun _ h => nomatch h) d_L_answer_18
set_option maxHeartbeats 4000000 in
set_option maxRecDepth 100000 in
theorem c_L_feign_ok (l : Launch) (D : va_G) (h0 pp qq gg : Nat) (ho : Nat) (cA : ClassId) (f : Nat → Int64) (G : grp pp qq gg) (yy ce ze : Nat) (h1 : yy < pp) (hm : mem (nI (yy)).toInt pp qq) (h2 : ce < qq) (h3 : ze < qq) : Met l y_L_feign (k_L_feign :: wall) { frames := 8, cells := 0, slots := 0, locals := 130 } (zP [.ref (h0), .int (nI (yy)), .int (nI (ce)), .int (nI (ze)), .ref (ho)] (OL D h0 (nI (pp)) (nI (qq)) (nI (gg)) ho cA f)) (zW (some (.int (nI (0)))) D (oA ho cA (vp_updL f (nI (0)).toNatClampNeg (lN ((gg ^ ze % pp) * (yy ^ (qq - ce) % pp) % pp)))) ho) 0 0 (fun q => q = ho) := by
  refine met_of_vx (vx_ofWH (cc := b_L_feign) (maxL := 6) (ret := (some .int)) (by decide) rfl ?_)
  intro p e s m args below meth c s₁ B hml hv
  obtain ⟨hv, ⟨hP, hK, hT⟩, hO, hKl, hN⟩ := hv
  subst hv
  have hx := B.exec
  have hb := B.bytes
  have hr := B.returns
  have hts := atoms_spec (ws := k_L_feign :: wall) B.pre
  have hw : ∀ w ∈ wall, w.before _ s = true := fun w h => hts w (List.mem_cons_of_mem _ h)
  have hown : s.vm.findClass R_L = some m.cls := findClass_of_methodNamed B.named
  have hlocks := B.notSynchronized
  have hl := lv_entry ([.ref (h0), .int (nI (yy)), .int (nI (ce)), .int (nI (ze)), .ref (ho)]) (n := 6) (Nat.le_of_ble_eq_true rfl)
  rw [lg_entry_eq]
  generalize (lg_sl ([.ref (h0), .int (nI (yy)), .int (nI (ce)), .int (nI (ze)), .ref (ho)]) ++ List.replicate (6 - (lg_sl ([.ref (h0), .int (nI (yy)), .int (nI (ce)), .int (nI (ze)), .ref (ho)])).length) Slot.unset).toArray = ls at hl ⊢
  have hl : lv_has ls 6 [(0, .ref (h0)), (1, .int (nI (yy))), (2, .int (nI (ce))), (3, .int (nI (ze))), (4, .ref (ho))] := hl
  generalize ([.ref (h0), .int (nI (yy)), .int (nI (ce)), .int (nI (ze)), .ref (ho)] : List Value).toArray = args at B hts hw ⊢
  have htab := vx_table (x := y_L_feign) B (hts _ List.mem_cons_self)
  refine vx_ret ?_
  have hp5 : 5 ≤ pp := by have := G.1; have := G.2.2.1.1; omega
  have hp := G.2.2.2.2.2.2
  have hq2 : 2 ≤ qq := G.2.2.1.1
  have hq : qq < 2 ^ 31 := by have := G.1; omega
  have hgp : gg < pp := G.2.2.2.2.1
  have hD : va_D (fun q => q = ho) (oA ho cA f) := one_D
  have hS : va_S (fun q => q = ho) s.heap s.heap [] := va_S.rf
  have hval : (gg ^ ze % pp) * (yy ^ (qq - ce) % pp) % pp < 2 ^ 31 := Nat.lt_trans (Nat.mod_lt _ (by omega)) hp
  refine lv_aload hx hb d_L_feign_0 (lv_at hl 4 rfl) ?_
  refine lv_iconst (v := nI (0)) hx hb d_L_feign_2 (by decide) ?_
  refine lv_aload_n hx hb d_L_feign_3 rfl (lv_at hl 0 rfl) ?_
  refine lv_iload_n hx hb d_L_feign_4 rfl (lv_at hl 1 rfl) ?_
  refine lv_iload_n hx hb d_L_feign_5 rfl (lv_at hl 2 rfl) ?_
  refine lv_iload_n hx hb d_L_feign_6 rfl (lv_at hl 3 rfl) ?_
  refine zV (b := h0) (As := [.int (nI (yy)), .int (nI (ce)), .int (nI (ze))]) (rest := [.int (nI (0)), .ref (ho)]) ⟨hx, hb, hml, hown, hw⟩ (c_X_feign_ok l D h0 pp qq gg G yy ce ze h1 hm h2 h3) OX_B (OX_at hP hK hT (fun _ _ => rfl)) (va_recv hK hP (ci := 0) (q0 := 0) rfl rfl) g_L_32 rfl rfl pd_X_feign ⟨Nat.le_of_ble_eq_true rfl, Nat.le_of_ble_eq_true rfl⟩ hl.1 rfl (Nat.le_of_ble_eq_true rfl) d_L_feign_7 ⟨Nat.zero_le _, Nat.zero_le _⟩ ?_
  refine W.eq (g2 := F0 m 10 ls [.int (nI ((gg ^ ze % pp) * (yy ^ (qq - ce) % pp) % pp)), .int (nI (0)), .ref (ho)]) rfl ?_
  refine lv_i2l (v := lN ((gg ^ ze % pp) * (yy ^ (qq - ce) % pp) % pp)) hx hb d_L_feign_10 (nI_l (hval)) ?_
  refine va_last (i := nI (0)) hx hb hKl hO hD hS 0 0 rfl rfl (vp_in_nI (by decide) (by decide)) d_L_feign_11 (fun H locs hO hD hS => ?_)
  have hO : va_P D classes (oA ho cA (vp_updL f (nI (0)).toNatClampNeg (lN ((gg ^ ze % pp) * (yy ^ (qq - ce) % pp) % pp)))) H := hO
  refine lv_goto (tgt := 19) hx hb d_L_feign_12 (by decide) ?_
  refine lv_iconst (v := nI (0)) hx hb d_L_feign_19 (by decide) ?_
  exact W.iret hx hb hr (fun t ht _ => ⟨rfl, by rw [ht]; exact hO, hS.F ht⟩) hS.2.2 d_L_feign_20
set_option maxHeartbeats 4000000 in
set_option maxRecDepth 100000 in
theorem c_L_feign_bad (l : Launch) (hL : l.stackTraces = false) (D : va_G) (h0 pp qq gg : Nat) (ho : Nat) (cA : ClassId) (f : Nat → Int64) (G : grp pp qq gg) (yv cv zv : Int32) (hno : ¬ (mem yv.toInt pp qq ∧ res cv.toInt qq ∧ res zv.toInt qq)) : Met l y_L_feign (k_L_feign :: wall) { frames := 8, cells := 1, slots := 6, locals := 130 } (zP [.ref (h0), .int (yv), .int (cv), .int (zv), .ref (ho)] (OL D h0 (nI (pp)) (nI (qq)) (nI (gg)) ho cA f)) (zN (some (.int (nI (1))))) 1 6 (fun _ => False) := by
  refine met_of_vx (vx_ofWH (cc := b_L_feign) (maxL := 6) (ret := (some .int)) (by decide) rfl ?_)
  intro p e s m args below meth c s₁ B hml hv
  obtain ⟨hv, ⟨hP, hK, hT⟩, hO, hKl, hN⟩ := hv
  subst hv
  have hx := B.exec
  have hb := B.bytes
  have hr := B.returns
  have hts := atoms_spec (ws := k_L_feign :: wall) B.pre
  have hw : ∀ w ∈ wall, w.before _ s = true := fun w h => hts w (List.mem_cons_of_mem _ h)
  have hown : s.vm.findClass R_L = some m.cls := findClass_of_methodNamed B.named
  have hlocks := B.notSynchronized
  have hl := lv_entry ([.ref (h0), .int (yv), .int (cv), .int (zv), .ref (ho)]) (n := 6) (Nat.le_of_ble_eq_true rfl)
  rw [lg_entry_eq]
  generalize (lg_sl ([.ref (h0), .int (yv), .int (cv), .int (zv), .ref (ho)]) ++ List.replicate (6 - (lg_sl ([.ref (h0), .int (yv), .int (cv), .int (zv), .ref (ho)])).length) Slot.unset).toArray = ls at hl ⊢
  have hl : lv_has ls 6 [(0, .ref (h0)), (1, .int (yv)), (2, .int (cv)), (3, .int (zv)), (4, .ref (ho))] := hl
  generalize ([.ref (h0), .int (yv), .int (cv), .int (zv), .ref (ho)] : List Value).toArray = args at B hts hw ⊢
  have htab := vx_table (x := y_L_feign) B (hts _ List.mem_cons_self)
  refine vx_ret ?_
  have hp5 : 5 ≤ pp := by have := G.1; have := G.2.2.1.1; omega
  have hp := G.2.2.2.2.2.2
  have hq2 : 2 ≤ qq := G.2.2.1.1
  have hq : qq < 2 ^ 31 := by have := G.1; omega
  have hgp : gg < pp := G.2.2.2.2.1
  refine lv_aload hx hb d_L_feign_0 (lv_at hl 4 rfl) ?_
  refine lv_iconst (v := nI (0)) hx hb d_L_feign_2 (by decide) ?_
  refine lv_aload_n hx hb d_L_feign_3 rfl (lv_at hl 0 rfl) ?_
  refine lv_iload_n hx hb d_L_feign_4 rfl (lv_at hl 1 rfl) ?_
  refine lv_iload_n hx hb d_L_feign_5 rfl (lv_at hl 2 rfl) ?_
  refine lv_iload_n hx hb d_L_feign_6 rfl (lv_at hl 3 rfl) ?_
  refine zXc (own := R_L) (name := IAE) (E := IAE) (hpc := 15) hown [] { startPc := 0, endPc := 12, handlerPc := 15, catchType := 13 } [] htab (Or.inl rfl) (by decide) (by decide) rfl (hw _ cl_L_13) (va_Nw.use rfl hT.1) (zXr (b := h0) (As := [.int (yv), .int (cv), .int (zv)]) (rest := [.int (nI (0)), .ref (ho)]) ⟨hx, hb, hml, hown, hw⟩ (c_X_feign_bad l hL D h0 pp qq gg G yv cv zv hno) OX_B (OX_at hP hK hT (fun _ _ => rfl)) (va_recv hK hP (ci := 0) (q0 := 0) rfl rfl) g_L_32 rfl rfl pd_X_feign ⟨Nat.le_of_ble_eq_true rfl, Nat.le_of_ble_eq_true rfl⟩ hl.1 rfl (Nat.le_of_ble_eq_true rfl) d_L_feign_7 ⟨Nat.le_of_ble_eq_true rfl, Nat.le_of_ble_eq_true rfl⟩) (fun q H1 hz hk => ?_)
  refine lv_astore (lv' := [(5, .ref (q)), (0, .ref (h0)), (1, .int (yv)), (2, .int (cv)), (3, .int (zv)), (4, .ref (ho))]) hx hb d_L_feign_15 hl (by decide) rfl (fun ls hl => ?_)
  refine lv_iconst (v := nI (1)) hx hb d_L_feign_17 (by decide) ?_
  exact W.iret hx hb hr (fun t ht _ => ⟨rfl, by rw [ht]; exact hz, fun r hr => by rw [ht]; exact hk r hr⟩) (fun _ h => nomatch h) d_L_feign_18
set_option maxHeartbeats 4000000 in
set_option maxRecDepth 100000 in
theorem c_L_secret_ok (l : Launch) (D : va_G) (h0 pp qq gg : Nat) (ho : Nat) (cA : ClassId) (f : Nat → Int64) (G : grp pp qq gg) (ce ze de we : Nat) (h1 : ce < qq) (h2 : ze < qq) (h3 : de < qq) (h4 : we < qq) (h5 : ce ≠ de) : Met l y_L_secret (k_L_secret :: wall) { frames := 8, cells := 0, slots := 0, locals := 130 } (zP [.ref (h0), .int (nI (ce)), .int (nI (ze)), .int (nI (de)), .int (nI (we)), .ref (ho)] (OL D h0 (nI (pp)) (nI (qq)) (nI (gg)) ho cA f)) (zW (some (.int (nI (0)))) D (oA ho cA (vp_updL f (nI (0)).toNatClampNeg (lN ((ze + qq - we) % qq * (((ce + qq - de) % qq) ^ (qq - 2) % qq) % qq)))) ho) 0 0 (fun q => q = ho) := by
  refine met_of_vx (vx_ofWH (cc := b_L_secret) (maxL := 7) (ret := (some .int)) (by decide) rfl ?_)
  intro p e s m args below meth c s₁ B hml hv
  obtain ⟨hv, ⟨hP, hK, hT⟩, hO, hKl, hN⟩ := hv
  subst hv
  have hx := B.exec
  have hb := B.bytes
  have hr := B.returns
  have hts := atoms_spec (ws := k_L_secret :: wall) B.pre
  have hw : ∀ w ∈ wall, w.before _ s = true := fun w h => hts w (List.mem_cons_of_mem _ h)
  have hown : s.vm.findClass R_L = some m.cls := findClass_of_methodNamed B.named
  have hlocks := B.notSynchronized
  have hl := lv_entry ([.ref (h0), .int (nI (ce)), .int (nI (ze)), .int (nI (de)), .int (nI (we)), .ref (ho)]) (n := 7) (Nat.le_of_ble_eq_true rfl)
  rw [lg_entry_eq]
  generalize (lg_sl ([.ref (h0), .int (nI (ce)), .int (nI (ze)), .int (nI (de)), .int (nI (we)), .ref (ho)]) ++ List.replicate (7 - (lg_sl ([.ref (h0), .int (nI (ce)), .int (nI (ze)), .int (nI (de)), .int (nI (we)), .ref (ho)])).length) Slot.unset).toArray = ls at hl ⊢
  have hl : lv_has ls 7 [(0, .ref (h0)), (1, .int (nI (ce))), (2, .int (nI (ze))), (3, .int (nI (de))), (4, .int (nI (we))), (5, .ref (ho))] := hl
  generalize ([.ref (h0), .int (nI (ce)), .int (nI (ze)), .int (nI (de)), .int (nI (we)), .ref (ho)] : List Value).toArray = args at B hts hw ⊢
  have htab := vx_table (x := y_L_secret) B (hts _ List.mem_cons_self)
  refine vx_ret ?_
  have hp5 : 5 ≤ pp := by have := G.1; have := G.2.2.1.1; omega
  have hp := G.2.2.2.2.2.2
  have hq2 : 2 ≤ qq := G.2.2.1.1
  have hq : qq < 2 ^ 31 := by have := G.1; omega
  have hgp : gg < pp := G.2.2.2.2.1
  have hD : va_D (fun q => q = ho) (oA ho cA f) := one_D
  have hS : va_S (fun q => q = ho) s.heap s.heap [] := va_S.rf
  have hval : (ze + qq - we) % qq * (((ce + qq - de) % qq) ^ (qq - 2) % qq) % qq < 2 ^ 31 := Nat.lt_trans (Nat.mod_lt _ (by omega)) hq
  refine lv_aload hx hb d_L_secret_0 (lv_at hl 5 rfl) ?_
  refine lv_iconst (v := nI (0)) hx hb d_L_secret_2 (by decide) ?_
  refine lv_aload_n hx hb d_L_secret_3 rfl (lv_at hl 0 rfl) ?_
  refine lv_iload_n hx hb d_L_secret_4 rfl (lv_at hl 1 rfl) ?_
  refine lv_iload_n hx hb d_L_secret_5 rfl (lv_at hl 2 rfl) ?_
  refine lv_iload_n hx hb d_L_secret_6 rfl (lv_at hl 3 rfl) ?_
  refine lv_iload hx hb d_L_secret_7 (lv_at hl 4 rfl) ?_
  refine zV (b := h0) (As := [.int (nI (ce)), .int (nI (ze)), .int (nI (de)), .int (nI (we))]) (rest := [.int (nI (0)), .ref (ho)]) ⟨hx, hb, hml, hown, hw⟩ (c_X_secret_ok l D h0 pp qq gg G ce ze de we h1 h2 h3 h4 h5) OX_B (OX_at hP hK hT (fun _ _ => rfl)) (va_recv hK hP (ci := 0) (q0 := 0) rfl rfl) g_L_35 rfl rfl pd_X_secret ⟨Nat.le_of_ble_eq_true rfl, Nat.le_of_ble_eq_true rfl⟩ hl.1 rfl (Nat.le_of_ble_eq_true rfl) d_L_secret_9 ⟨Nat.zero_le _, Nat.zero_le _⟩ ?_
  refine W.eq (g2 := F0 m 12 ls [.int (nI ((ze + qq - we) % qq * (((ce + qq - de) % qq) ^ (qq - 2) % qq) % qq)), .int (nI (0)), .ref (ho)]) rfl ?_
  refine lv_i2l (v := lN ((ze + qq - we) % qq * (((ce + qq - de) % qq) ^ (qq - 2) % qq) % qq)) hx hb d_L_secret_12 (nI_l (hval)) ?_
  refine va_last (i := nI (0)) hx hb hKl hO hD hS 0 0 rfl rfl (vp_in_nI (by decide) (by decide)) d_L_secret_13 (fun H locs hO hD hS => ?_)
  have hO : va_P D classes (oA ho cA (vp_updL f (nI (0)).toNatClampNeg (lN ((ze + qq - we) % qq * (((ce + qq - de) % qq) ^ (qq - 2) % qq) % qq)))) H := hO
  refine lv_goto (tgt := 21) hx hb d_L_secret_14 (by decide) ?_
  refine lv_iconst (v := nI (0)) hx hb d_L_secret_21 (by decide) ?_
  exact W.iret hx hb hr (fun t ht _ => ⟨rfl, by rw [ht]; exact hO, hS.F ht⟩) hS.2.2 d_L_secret_22
set_option maxHeartbeats 4000000 in
set_option maxRecDepth 100000 in
theorem c_L_secret_bad (l : Launch) (hL : l.stackTraces = false) (D : va_G) (h0 pp qq gg : Nat) (ho : Nat) (cA : ClassId) (f : Nat → Int64) (G : grp pp qq gg) (cv zv dv wv : Int32) (hno : ¬ (res cv.toInt qq ∧ res zv.toInt qq ∧ res dv.toInt qq ∧ res wv.toInt qq ∧ cv ≠ dv)) : Met l y_L_secret (k_L_secret :: wall) { frames := 8, cells := 1, slots := 6, locals := 130 } (zP [.ref (h0), .int (cv), .int (zv), .int (dv), .int (wv), .ref (ho)] (OL D h0 (nI (pp)) (nI (qq)) (nI (gg)) ho cA f)) (zN (some (.int (nI (1))))) 1 6 (fun _ => False) := by
  refine met_of_vx (vx_ofWH (cc := b_L_secret) (maxL := 7) (ret := (some .int)) (by decide) rfl ?_)
  intro p e s m args below meth c s₁ B hml hv
  obtain ⟨hv, ⟨hP, hK, hT⟩, hO, hKl, hN⟩ := hv
  subst hv
  have hx := B.exec
  have hb := B.bytes
  have hr := B.returns
  have hts := atoms_spec (ws := k_L_secret :: wall) B.pre
  have hw : ∀ w ∈ wall, w.before _ s = true := fun w h => hts w (List.mem_cons_of_mem _ h)
  have hown : s.vm.findClass R_L = some m.cls := findClass_of_methodNamed B.named
  have hlocks := B.notSynchronized
  have hl := lv_entry ([.ref (h0), .int (cv), .int (zv), .int (dv), .int (wv), .ref (ho)]) (n := 7) (Nat.le_of_ble_eq_true rfl)
  rw [lg_entry_eq]
  generalize (lg_sl ([.ref (h0), .int (cv), .int (zv), .int (dv), .int (wv), .ref (ho)]) ++ List.replicate (7 - (lg_sl ([.ref (h0), .int (cv), .int (zv), .int (dv), .int (wv), .ref (ho)])).length) Slot.unset).toArray = ls at hl ⊢
  have hl : lv_has ls 7 [(0, .ref (h0)), (1, .int (cv)), (2, .int (zv)), (3, .int (dv)), (4, .int (wv)), (5, .ref (ho))] := hl
  generalize ([.ref (h0), .int (cv), .int (zv), .int (dv), .int (wv), .ref (ho)] : List Value).toArray = args at B hts hw ⊢
  have htab := vx_table (x := y_L_secret) B (hts _ List.mem_cons_self)
  refine vx_ret ?_
  have hp5 : 5 ≤ pp := by have := G.1; have := G.2.2.1.1; omega
  have hp := G.2.2.2.2.2.2
  have hq2 : 2 ≤ qq := G.2.2.1.1
  have hq : qq < 2 ^ 31 := by have := G.1; omega
  have hgp : gg < pp := G.2.2.2.2.1
  refine lv_aload hx hb d_L_secret_0 (lv_at hl 5 rfl) ?_
  refine lv_iconst (v := nI (0)) hx hb d_L_secret_2 (by decide) ?_
  refine lv_aload_n hx hb d_L_secret_3 rfl (lv_at hl 0 rfl) ?_
  refine lv_iload_n hx hb d_L_secret_4 rfl (lv_at hl 1 rfl) ?_
  refine lv_iload_n hx hb d_L_secret_5 rfl (lv_at hl 2 rfl) ?_
  refine lv_iload_n hx hb d_L_secret_6 rfl (lv_at hl 3 rfl) ?_
  refine lv_iload hx hb d_L_secret_7 (lv_at hl 4 rfl) ?_
  refine zXc (own := R_L) (name := IAE) (E := IAE) (hpc := 17) hown [] { startPc := 0, endPc := 14, handlerPc := 17, catchType := 13 } [] htab (Or.inl rfl) (by decide) (by decide) rfl (hw _ cl_L_13) (va_Nw.use rfl hT.1) (zXr (b := h0) (As := [.int (cv), .int (zv), .int (dv), .int (wv)]) (rest := [.int (nI (0)), .ref (ho)]) ⟨hx, hb, hml, hown, hw⟩ (c_X_secret_bad l hL D h0 pp qq gg G cv zv dv wv hno) OX_B (OX_at hP hK hT (fun _ _ => rfl)) (va_recv hK hP (ci := 0) (q0 := 0) rfl rfl) g_L_35 rfl rfl pd_X_secret ⟨Nat.le_of_ble_eq_true rfl, Nat.le_of_ble_eq_true rfl⟩ hl.1 rfl (Nat.le_of_ble_eq_true rfl) d_L_secret_9 ⟨Nat.le_of_ble_eq_true rfl, Nat.le_of_ble_eq_true rfl⟩) (fun q H1 hz hk => ?_)
  refine lv_astore (lv' := [(6, .ref (q)), (0, .ref (h0)), (1, .int (cv)), (2, .int (zv)), (3, .int (dv)), (4, .int (wv)), (5, .ref (ho))]) hx hb d_L_secret_17 hl (by decide) rfl (fun ls hl => ?_)
  refine lv_iconst (v := nI (1)) hx hb d_L_secret_19 (by decide) ?_
  exact W.iret hx hb hr (fun t ht _ => ⟨rfl, by rw [ht]; exact hz, fun r hr => by rw [ht]; exact hk r hr⟩) (fun _ h => nomatch h) d_L_secret_20
set_option maxHeartbeats 4000000 in
set_option maxRecDepth 100000 in
theorem c_L_count_0 (l : Launch) (D : va_G) (h0 pp qq gg : Nat) (ho : Nat) (cA : ClassId) (f : Nat → Int64) (G : grp pp qq gg)  : Met l y_L_count (k_L_count :: wall) { frames := 8, cells := 0, slots := 0, locals := 130 } (zP [.ref (h0), .int (nI (0)), .ref (ho)] (OL D h0 (nI (pp)) (nI (qq)) (nI (gg)) ho cA f)) (zW (some (.int (nI (0)))) D (oA ho cA (vp_updL f (nI (0)).toNatClampNeg (lN (pp)))) ho) 0 0 (fun q => q = ho) := by
  refine met_of_vx (vx_ofWH (cc := b_L_count) (maxL := 4) (ret := (some .int)) (by decide) rfl ?_)
  intro p e s m args below meth c s₁ B hml hv
  obtain ⟨hv, ⟨hP, hK, hT⟩, hO, hKl, hN⟩ := hv
  subst hv
  have hx := B.exec
  have hb := B.bytes
  have hr := B.returns
  have hts := atoms_spec (ws := k_L_count :: wall) B.pre
  have hw : ∀ w ∈ wall, w.before _ s = true := fun w h => hts w (List.mem_cons_of_mem _ h)
  have hown : s.vm.findClass R_L = some m.cls := findClass_of_methodNamed B.named
  have hlocks := B.notSynchronized
  have hl := lv_entry ([.ref (h0), .int (nI (0)), .ref (ho)]) (n := 4) (Nat.le_of_ble_eq_true rfl)
  rw [lg_entry_eq]
  generalize (lg_sl ([.ref (h0), .int (nI (0)), .ref (ho)]) ++ List.replicate (4 - (lg_sl ([.ref (h0), .int (nI (0)), .ref (ho)])).length) Slot.unset).toArray = ls at hl ⊢
  have hl : lv_has ls 4 [(0, .ref (h0)), (1, .int (nI (0))), (2, .ref (ho))] := hl
  generalize ([.ref (h0), .int (nI (0)), .ref (ho)] : List Value).toArray = args at B hts hw ⊢
  have htab := vx_table (x := y_L_count) B (hts _ List.mem_cons_self)
  refine vx_ret ?_
  have hp5 : 5 ≤ pp := by have := G.1; have := G.2.2.1.1; omega
  have hp := G.2.2.2.2.2.2
  have hq2 : 2 ≤ qq := G.2.2.1.1
  have hq : qq < 2 ^ 31 := by have := G.1; omega
  have hgp : gg < pp := G.2.2.2.2.1
  have hD : va_D (fun q => q = ho) (oA ho cA f) := one_D
  have hS : va_S (fun q => q = ho) s.heap s.heap [] := va_S.rf
  have hval : pp < 2 ^ 31 := by omega
  refine lv_aload_n hx hb d_L_count_0 rfl (lv_at hl 2 rfl) ?_
  refine lv_iconst (v := nI (0)) hx hb d_L_count_1 (by decide) ?_
  refine lv_aload_n hx hb d_L_count_2 rfl (lv_at hl 0 rfl) ?_
  refine lv_iload_n hx hb d_L_count_3 rfl (lv_at hl 1 rfl) ?_
  refine zV (b := h0) (As := [.int (nI (0))]) (rest := [.int (nI (0)), .ref (ho)]) ⟨hx, hb, hml, hown, hw⟩ (c_X_count_0 l D h0 pp qq gg G) OX_B (OX_at hP hK hT (fun _ _ => rfl)) (va_recv hK hP (ci := 0) (q0 := 0) rfl rfl) g_L_39 rfl rfl pd_X_count ⟨Nat.le_of_ble_eq_true rfl, Nat.le_of_ble_eq_true rfl⟩ hl.1 rfl (Nat.le_of_ble_eq_true rfl) d_L_count_4 ⟨Nat.zero_le _, Nat.zero_le _⟩ ?_
  refine W.eq (g2 := F0 m 7 ls [.int (nI (pp)), .int (nI (0)), .ref (ho)]) rfl ?_
  refine lv_i2l (v := lN (pp)) hx hb d_L_count_7 (nI_l (hval)) ?_
  refine va_last (i := nI (0)) hx hb hKl hO hD hS 0 0 rfl rfl (vp_in_nI (by decide) (by decide)) d_L_count_8 (fun H locs hO hD hS => ?_)
  have hO : va_P D classes (oA ho cA (vp_updL f (nI (0)).toNatClampNeg (lN (pp)))) H := hO
  refine lv_goto (tgt := 15) hx hb d_L_count_9 (by decide) ?_
  refine lv_iconst (v := nI (0)) hx hb d_L_count_15 (by decide) ?_
  exact W.iret hx hb hr (fun t ht _ => ⟨rfl, by rw [ht]; exact hO, hS.F ht⟩) hS.2.2 d_L_count_16
set_option maxHeartbeats 4000000 in
set_option maxRecDepth 100000 in
theorem c_L_count_1 (l : Launch) (D : va_G) (h0 pp qq gg : Nat) (ho : Nat) (cA : ClassId) (f : Nat → Int64) (G : grp pp qq gg)  : Met l y_L_count (k_L_count :: wall) { frames := 8, cells := 0, slots := 0, locals := 130 } (zP [.ref (h0), .int (nI (1)), .ref (ho)] (OL D h0 (nI (pp)) (nI (qq)) (nI (gg)) ho cA f)) (zW (some (.int (nI (0)))) D (oA ho cA (vp_updL f (nI (0)).toNatClampNeg (lN (qq)))) ho) 0 0 (fun q => q = ho) := by
  refine met_of_vx (vx_ofWH (cc := b_L_count) (maxL := 4) (ret := (some .int)) (by decide) rfl ?_)
  intro p e s m args below meth c s₁ B hml hv
  obtain ⟨hv, ⟨hP, hK, hT⟩, hO, hKl, hN⟩ := hv
  subst hv
  have hx := B.exec
  have hb := B.bytes
  have hr := B.returns
  have hts := atoms_spec (ws := k_L_count :: wall) B.pre
  have hw : ∀ w ∈ wall, w.before _ s = true := fun w h => hts w (List.mem_cons_of_mem _ h)
  have hown : s.vm.findClass R_L = some m.cls := findClass_of_methodNamed B.named
  have hlocks := B.notSynchronized
  have hl := lv_entry ([.ref (h0), .int (nI (1)), .ref (ho)]) (n := 4) (Nat.le_of_ble_eq_true rfl)
  rw [lg_entry_eq]
  generalize (lg_sl ([.ref (h0), .int (nI (1)), .ref (ho)]) ++ List.replicate (4 - (lg_sl ([.ref (h0), .int (nI (1)), .ref (ho)])).length) Slot.unset).toArray = ls at hl ⊢
  have hl : lv_has ls 4 [(0, .ref (h0)), (1, .int (nI (1))), (2, .ref (ho))] := hl
  generalize ([.ref (h0), .int (nI (1)), .ref (ho)] : List Value).toArray = args at B hts hw ⊢
  have htab := vx_table (x := y_L_count) B (hts _ List.mem_cons_self)
  refine vx_ret ?_
  have hp5 : 5 ≤ pp := by have := G.1; have := G.2.2.1.1; omega
  have hp := G.2.2.2.2.2.2
  have hq2 : 2 ≤ qq := G.2.2.1.1
  have hq : qq < 2 ^ 31 := by have := G.1; omega
  have hgp : gg < pp := G.2.2.2.2.1
  have hD : va_D (fun q => q = ho) (oA ho cA f) := one_D
  have hS : va_S (fun q => q = ho) s.heap s.heap [] := va_S.rf
  have hval : qq < 2 ^ 31 := by omega
  refine lv_aload_n hx hb d_L_count_0 rfl (lv_at hl 2 rfl) ?_
  refine lv_iconst (v := nI (0)) hx hb d_L_count_1 (by decide) ?_
  refine lv_aload_n hx hb d_L_count_2 rfl (lv_at hl 0 rfl) ?_
  refine lv_iload_n hx hb d_L_count_3 rfl (lv_at hl 1 rfl) ?_
  refine zV (b := h0) (As := [.int (nI (1))]) (rest := [.int (nI (0)), .ref (ho)]) ⟨hx, hb, hml, hown, hw⟩ (c_X_count_1 l D h0 pp qq gg G) OX_B (OX_at hP hK hT (fun _ _ => rfl)) (va_recv hK hP (ci := 0) (q0 := 0) rfl rfl) g_L_39 rfl rfl pd_X_count ⟨Nat.le_of_ble_eq_true rfl, Nat.le_of_ble_eq_true rfl⟩ hl.1 rfl (Nat.le_of_ble_eq_true rfl) d_L_count_4 ⟨Nat.zero_le _, Nat.zero_le _⟩ ?_
  refine W.eq (g2 := F0 m 7 ls [.int (nI (qq)), .int (nI (0)), .ref (ho)]) rfl ?_
  refine lv_i2l (v := lN (qq)) hx hb d_L_count_7 (nI_l (hval)) ?_
  refine va_last (i := nI (0)) hx hb hKl hO hD hS 0 0 rfl rfl (vp_in_nI (by decide) (by decide)) d_L_count_8 (fun H locs hO hD hS => ?_)
  have hO : va_P D classes (oA ho cA (vp_updL f (nI (0)).toNatClampNeg (lN (qq)))) H := hO
  refine lv_goto (tgt := 15) hx hb d_L_count_9 (by decide) ?_
  refine lv_iconst (v := nI (0)) hx hb d_L_count_15 (by decide) ?_
  exact W.iret hx hb hr (fun t ht _ => ⟨rfl, by rw [ht]; exact hO, hS.F ht⟩) hS.2.2 d_L_count_16
set_option maxHeartbeats 4000000 in
set_option maxRecDepth 100000 in
theorem c_L_count_2 (l : Launch) (D : va_G) (h0 pp qq gg : Nat) (ho : Nat) (cA : ClassId) (f : Nat → Int64) (G : grp pp qq gg)  : Met l y_L_count (k_L_count :: wall) { frames := 8, cells := 0, slots := 0, locals := 130 } (zP [.ref (h0), .int (nI (2)), .ref (ho)] (OL D h0 (nI (pp)) (nI (qq)) (nI (gg)) ho cA f)) (zW (some (.int (nI (0)))) D (oA ho cA (vp_updL f (nI (0)).toNatClampNeg (lN (gg)))) ho) 0 0 (fun q => q = ho) := by
  refine met_of_vx (vx_ofWH (cc := b_L_count) (maxL := 4) (ret := (some .int)) (by decide) rfl ?_)
  intro p e s m args below meth c s₁ B hml hv
  obtain ⟨hv, ⟨hP, hK, hT⟩, hO, hKl, hN⟩ := hv
  subst hv
  have hx := B.exec
  have hb := B.bytes
  have hr := B.returns
  have hts := atoms_spec (ws := k_L_count :: wall) B.pre
  have hw : ∀ w ∈ wall, w.before _ s = true := fun w h => hts w (List.mem_cons_of_mem _ h)
  have hown : s.vm.findClass R_L = some m.cls := findClass_of_methodNamed B.named
  have hlocks := B.notSynchronized
  have hl := lv_entry ([.ref (h0), .int (nI (2)), .ref (ho)]) (n := 4) (Nat.le_of_ble_eq_true rfl)
  rw [lg_entry_eq]
  generalize (lg_sl ([.ref (h0), .int (nI (2)), .ref (ho)]) ++ List.replicate (4 - (lg_sl ([.ref (h0), .int (nI (2)), .ref (ho)])).length) Slot.unset).toArray = ls at hl ⊢
  have hl : lv_has ls 4 [(0, .ref (h0)), (1, .int (nI (2))), (2, .ref (ho))] := hl
  generalize ([.ref (h0), .int (nI (2)), .ref (ho)] : List Value).toArray = args at B hts hw ⊢
  have htab := vx_table (x := y_L_count) B (hts _ List.mem_cons_self)
  refine vx_ret ?_
  have hp5 : 5 ≤ pp := by have := G.1; have := G.2.2.1.1; omega
  have hp := G.2.2.2.2.2.2
  have hq2 : 2 ≤ qq := G.2.2.1.1
  have hq : qq < 2 ^ 31 := by have := G.1; omega
  have hgp : gg < pp := G.2.2.2.2.1
  have hD : va_D (fun q => q = ho) (oA ho cA f) := one_D
  have hS : va_S (fun q => q = ho) s.heap s.heap [] := va_S.rf
  have hval : gg < 2 ^ 31 := by omega
  refine lv_aload_n hx hb d_L_count_0 rfl (lv_at hl 2 rfl) ?_
  refine lv_iconst (v := nI (0)) hx hb d_L_count_1 (by decide) ?_
  refine lv_aload_n hx hb d_L_count_2 rfl (lv_at hl 0 rfl) ?_
  refine lv_iload_n hx hb d_L_count_3 rfl (lv_at hl 1 rfl) ?_
  refine zV (b := h0) (As := [.int (nI (2))]) (rest := [.int (nI (0)), .ref (ho)]) ⟨hx, hb, hml, hown, hw⟩ (c_X_count_2 l D h0 pp qq gg G) OX_B (OX_at hP hK hT (fun _ _ => rfl)) (va_recv hK hP (ci := 0) (q0 := 0) rfl rfl) g_L_39 rfl rfl pd_X_count ⟨Nat.le_of_ble_eq_true rfl, Nat.le_of_ble_eq_true rfl⟩ hl.1 rfl (Nat.le_of_ble_eq_true rfl) d_L_count_4 ⟨Nat.zero_le _, Nat.zero_le _⟩ ?_
  refine W.eq (g2 := F0 m 7 ls [.int (nI (gg)), .int (nI (0)), .ref (ho)]) rfl ?_
  refine lv_i2l (v := lN (gg)) hx hb d_L_count_7 (nI_l (hval)) ?_
  refine va_last (i := nI (0)) hx hb hKl hO hD hS 0 0 rfl rfl (vp_in_nI (by decide) (by decide)) d_L_count_8 (fun H locs hO hD hS => ?_)
  have hO : va_P D classes (oA ho cA (vp_updL f (nI (0)).toNatClampNeg (lN (gg)))) H := hO
  refine lv_goto (tgt := 15) hx hb d_L_count_9 (by decide) ?_
  refine lv_iconst (v := nI (0)) hx hb d_L_count_15 (by decide) ?_
  exact W.iret hx hb hr (fun t ht _ => ⟨rfl, by rw [ht]; exact hO, hS.F ht⟩) hS.2.2 d_L_count_16
set_option maxHeartbeats 4000000 in
set_option maxRecDepth 100000 in
theorem c_L_count_bad (l : Launch) (hL : l.stackTraces = false) (D : va_G) (h0 pp qq gg : Nat) (ho : Nat) (cA : ClassId) (f : Nat → Int64) (G : grp pp qq gg) (av : Int32) (hno : ¬ (0 ≤ av.toInt ∧ av.toInt ≤ 2)) : Met l y_L_count (k_L_count :: wall) { frames := 8, cells := 1, slots := 6, locals := 130 } (zP [.ref (h0), .int (av), .ref (ho)] (OL D h0 (nI (pp)) (nI (qq)) (nI (gg)) ho cA f)) (zN (some (.int (nI (1))))) 1 6 (fun _ => False) := by
  refine met_of_vx (vx_ofWH (cc := b_L_count) (maxL := 4) (ret := (some .int)) (by decide) rfl ?_)
  intro p e s m args below meth c s₁ B hml hv
  obtain ⟨hv, ⟨hP, hK, hT⟩, hO, hKl, hN⟩ := hv
  subst hv
  have hx := B.exec
  have hb := B.bytes
  have hr := B.returns
  have hts := atoms_spec (ws := k_L_count :: wall) B.pre
  have hw : ∀ w ∈ wall, w.before _ s = true := fun w h => hts w (List.mem_cons_of_mem _ h)
  have hown : s.vm.findClass R_L = some m.cls := findClass_of_methodNamed B.named
  have hlocks := B.notSynchronized
  have hl := lv_entry ([.ref (h0), .int (av), .ref (ho)]) (n := 4) (Nat.le_of_ble_eq_true rfl)
  rw [lg_entry_eq]
  generalize (lg_sl ([.ref (h0), .int (av), .ref (ho)]) ++ List.replicate (4 - (lg_sl ([.ref (h0), .int (av), .ref (ho)])).length) Slot.unset).toArray = ls at hl ⊢
  have hl : lv_has ls 4 [(0, .ref (h0)), (1, .int (av)), (2, .ref (ho))] := hl
  generalize ([.ref (h0), .int (av), .ref (ho)] : List Value).toArray = args at B hts hw ⊢
  have htab := vx_table (x := y_L_count) B (hts _ List.mem_cons_self)
  refine vx_ret ?_
  have hp5 : 5 ≤ pp := by have := G.1; have := G.2.2.1.1; omega
  have hp := G.2.2.2.2.2.2
  have hq2 : 2 ≤ qq := G.2.2.1.1
  have hq : qq < 2 ^ 31 := by have := G.1; omega
  have hgp : gg < pp := G.2.2.2.2.1
  refine lv_aload_n hx hb d_L_count_0 rfl (lv_at hl 2 rfl) ?_
  refine lv_iconst (v := nI (0)) hx hb d_L_count_1 (by decide) ?_
  refine lv_aload_n hx hb d_L_count_2 rfl (lv_at hl 0 rfl) ?_
  refine lv_iload_n hx hb d_L_count_3 rfl (lv_at hl 1 rfl) ?_
  refine zXc (own := R_L) (name := IAE) (E := IAE) (hpc := 12) hown [] { startPc := 0, endPc := 9, handlerPc := 12, catchType := 13 } [] htab (Or.inl rfl) (by decide) (by decide) rfl (hw _ cl_L_13) (va_Nw.use rfl hT.1) (zXr (b := h0) (As := [.int (av)]) (rest := [.int (nI (0)), .ref (ho)]) ⟨hx, hb, hml, hown, hw⟩ (c_X_count_bad l hL D h0 pp qq gg G av hno) OX_B (OX_at hP hK hT (fun _ _ => rfl)) (va_recv hK hP (ci := 0) (q0 := 0) rfl rfl) g_L_39 rfl rfl pd_X_count ⟨Nat.le_of_ble_eq_true rfl, Nat.le_of_ble_eq_true rfl⟩ hl.1 rfl (Nat.le_of_ble_eq_true rfl) d_L_count_4 ⟨Nat.le_of_ble_eq_true rfl, Nat.le_of_ble_eq_true rfl⟩) (fun q H1 hz hk => ?_)
  refine lv_astore_n (lv' := [(3, .ref (q)), (0, .ref (h0)), (1, .int (av)), (2, .ref (ho))]) hx hb d_L_count_12 rfl hl (by decide) rfl (fun ls hl => ?_)
  refine lv_iconst (v := nI (1)) hx hb d_L_count_13 (by decide) ?_
  exact W.iret hx hb hr (fun t ht _ => ⟨rfl, by rw [ht]; exact hz, fun r hr => by rw [ht]; exact hk r hr⟩) (fun _ h => nomatch h) d_L_count_14
